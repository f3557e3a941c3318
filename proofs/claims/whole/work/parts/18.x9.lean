def f_X9_shorten (p1 : Int32) (p2 : Int32) (p3 : Int32) (S : St) : Option (Unit × St) := if inb ((p1 * (8 : Int32)) + p2) 64 then if inb ((p1 * (8 : Int32)) + p2) 64 then lt (sI S 99 ((p1 * (8 : Int32)) + p2).toNatClampNeg (mnI (gI S 99 ((p1 * (8 : Int32)) + p2).toNatClampNeg) p3)) (fun S3 => some ((), S3)) else none else none
theorem c_X9_shorten {p1 : Int32} {p2 : Int32} {p3 : Int32} {S : St} {r : Unit} {S' : St} (hf : f_X9_shorten p1 p2 p3 S = some (r, S')) : zM yX9_shorten cX9_shorten 4 1 none [.ref 98, .int p1, .int p2, .int p3] S (none) S' := by
  refine zM_of (zpl (by decide)) (Nat.le_of_ble_eq_true rfl) rfl (fun K hK hA => ?_)
  unfold f_X9_shorten at hf
  refine j_aload_n hK dX9_shorten_0 0 rfl rfl ?_
  refine j_getR hK fl_X9_15 dX9_shorten_1 zo_98 zf_9_1 zr_98_1 ?_
  refine j_iload_n hK dX9_shorten_4 1 rfl rfl ?_
  refine j_bipush hK (8 : Int32) dX9_shorten_5 bi_8 ?_
  refine j_imul hK dX9_shorten_7 ?_
  refine j_iload_n hK dX9_shorten_8 2 rfl rfl ?_
  refine j_iadd hK dX9_shorten_9 ?_
  refine j_aload_n hK dX9_shorten_10 0 rfl rfl ?_
  refine j_pc (pc' := 11) rfl ?_
  refine j_getR hK fl_X9_15 dX9_shorten_11 zo_98 zf_9_1 zr_98_1 ?_
  refine j_iload_n hK dX9_shorten_14 1 rfl rfl ?_
  refine j_bipush hK (8 : Int32) dX9_shorten_15 bi_8 ?_
  refine j_imul hK dX9_shorten_17 ?_
  refine j_iload_n hK dX9_shorten_18 2 rfl rfl ?_
  refine j_iadd hK dX9_shorten_19 ?_
  obtain ⟨hi1, hf⟩ := gd hf
  refine k_iald hK dX9_shorten_20 zb_99 hi1 rfl ?_
  refine j_iload_n hK dX9_shorten_21 3 rfl rfl ?_
  refine j_pc (pc' := 22) rfl ?_
  refine j_min hK ml_X9_55 dX9_shorten_22 (by decide) (Nat.le_of_ble_eq_true rfl) ?_
  obtain ⟨hi2, hf⟩ := gd hf
  refine k_iast hK dX9_shorten_25 zb_99 hi2 rfl ?_
  refine lt_S hf (fun S3 hf => ?_)
  exact j_vret hK dX9_shorten_26 rfl (rt_V hA hf)
def f_X9_farOf (p1 : Int32) (p2 : Int32) (S : St) : Option (Int32 × St) := if inb ((p1 * (8 : Int32)) + p2) 64 then some ((gI S 99 ((p1 * (8 : Int32)) + p2).toNatClampNeg), S) else none
theorem c_X9_farOf {p1 : Int32} {p2 : Int32} {S : St} {r : Int32} {S' : St} (hf : f_X9_farOf p1 p2 S = some (r, S')) : zM yX9_farOf cX9_farOf 3 1 (some .int) [.ref 98, .int p1, .int p2] S (some (.int r)) S' := by
  refine zM_of (zpl (by decide)) (Nat.le_of_ble_eq_true rfl) rfl (fun K hK hA => ?_)
  unfold f_X9_farOf at hf
  refine j_aload_n hK dX9_farOf_0 0 rfl rfl ?_
  refine j_getR hK fl_X9_15 dX9_farOf_1 zo_98 zf_9_1 zr_98_1 ?_
  refine j_iload_n hK dX9_farOf_4 1 rfl rfl ?_
  refine j_bipush hK (8 : Int32) dX9_farOf_5 bi_8 ?_
  refine j_imul hK dX9_farOf_7 ?_
  refine j_iload_n hK dX9_farOf_8 2 rfl rfl ?_
  refine j_iadd hK dX9_farOf_9 ?_
  obtain ⟨hi1, hf⟩ := gd hf
  refine k_iald hK dX9_farOf_10 zb_99 hi1 rfl ?_
  refine j_pc (pc' := 11) rfl ?_
  exact j_iret hK dX9_farOf_11 rfl (rt_I hA hf)
def f_X9_measure_167b (x1 : Int32) (x2 : Int32) (e : Int32 → St → Option (Unit × St)) (k : Int32 → St → Option (Unit × St)) (v : Int32) (S : St) : Option (Unit × St) := (if (8 : Int32) ≤ v then e v S else bd (f_X9_farOf x2 x1 S) (fun r1 S2 => bd (f_X9_farOf x1 v S2) (fun r4 S5 => bd (f_X9_shorten x2 v (r1 + r4) S5) (fun r7 S8 => k (v + (1 : Int32)) S8))))
theorem t_X9_measure_167 {K : CT} (hK : KO K cX9_measure RX9 4 2 none) {r : Unit} {S' : St} (hA : zans K = (none, S')) {x1 : Int32} {x2 : Int32} {e : Int32 → St → Option (Unit × St)} (he : ∀ (v : Int32) (S : St), e v S = some (r, S') → J K 198 [(0, .ref 98), (1, .int x1), (2, .int x2)] [] S) : ∀ (n : Nat) (v : Int32) (S : St), lp (f_X9_measure_167b x1 x2 e) n v S = some (r, S') → J K 167 [(0, .ref 98), (1, .int x1), (2, .int x2), (3, .int v)] [] S :=
  lp_J (P := fun (v : Int32) (S : St) => J K 167 [(0, .ref 98), (1, .int x1), (2, .int x2), (3, .int v)] [] S) (fun k hk v S hf => by
    unfold f_X9_measure_167b at hf
    refine j_iload_n hK dX9_measure_167 3 rfl rfl ?_
    refine j_bipush hK (8 : Int32) dX9_measure_168 bi_8 ?_
    refine j_icmp_ge hK 198 dX9_measure_170 (by decide) (fun hc => ?_) (fun hc => ?_)
    · replace hf := if_1 hc hf
      refine j_sub [0, 1, 2] rfl ?_
      exact he _ _ hf
    · replace hf := if_2 hc hf
      refine j_aload_n hK dX9_measure_173 0 rfl rfl ?_
      refine j_iload_n hK dX9_measure_174 2 rfl rfl ?_
      refine j_iload_n hK dX9_measure_175 3 rfl rfl ?_
      refine j_aload_n hK dX9_measure_176 0 rfl rfl ?_
      refine j_iload_n hK dX9_measure_177 2 rfl rfl ?_
      refine j_iload_n hK dX9_measure_178 1 rfl rfl ?_
      obtain ⟨r1, S2, h3, hf⟩ := bd_J hf
      refine k_callVi hK (c_X9_farOf h3) dX9_measure_179 zclX9 zo_98 ml_X9_51 mi_X9_farOf mx_X9_farOf in_X9 mc_X9_farOf hy_X9_farOf ⟨by decide, by decide⟩ rfl (Nat.le_of_ble_eq_true rfl) ?_
      refine j_pc (pc' := 182) rfl ?_
      refine j_aload_n hK dX9_measure_182 0 rfl rfl ?_
      refine j_iload_n hK dX9_measure_183 1 rfl rfl ?_
      refine j_iload_n hK dX9_measure_184 3 rfl rfl ?_
      obtain ⟨r4, S5, h6, hf⟩ := bd_J hf
      refine k_callVi hK (c_X9_farOf h6) dX9_measure_185 zclX9 zo_98 ml_X9_51 mi_X9_farOf mx_X9_farOf in_X9 mc_X9_farOf hy_X9_farOf ⟨by decide, by decide⟩ rfl (Nat.le_of_ble_eq_true rfl) ?_
      refine j_iadd hK dX9_measure_188 ?_
      obtain ⟨r7, S8, h9, hf⟩ := bd_J hf
      refine k_callVv hK (c_X9_shorten h9) dX9_measure_189 zclX9 zo_98 ml_X9_47 mi_X9_shorten mx_X9_shorten in_X9 mc_X9_shorten hy_X9_shorten ⟨by decide, by decide⟩ rfl (Nat.le_of_ble_eq_true rfl) ?_
      refine j_iinc hK (L' := [(3, .int (v + (1 : Int32))), (0, .ref 98), (1, .int x1), (2, .int x2)]) dX9_measure_192 3 rfl (congrArg (fun y => v + y) ic_1) (by decide) rfl ?_
      refine j_goto hK 167 dX9_measure_195 (by decide) ?_
      refine j_sub [1, 2, 3, 0] rfl ?_
      exact hk _ _ hf)
def f_X9_measure_159b (x1 : Int32) (e : Int32 → St → Option (Unit × St)) (k : Int32 → St → Option (Unit × St)) (v : Int32) (S : St) : Option (Unit × St) := (if (8 : Int32) ≤ v then e v S else lp (f_X9_measure_167b x1 v (fun v10 S11 => k (v + (1 : Int32)) S11)) FU (0 : Int32) S)
theorem t_X9_measure_159 {K : CT} (hK : KO K cX9_measure RX9 4 2 none) {r : Unit} {S' : St} (hA : zans K = (none, S')) {x1 : Int32} {e : Int32 → St → Option (Unit × St)} (he : ∀ (v : Int32) (S : St), e v S = some (r, S') → J K 204 [(0, .ref 98), (1, .int x1)] [] S) : ∀ (n : Nat) (v : Int32) (S : St), lp (f_X9_measure_159b x1 e) n v S = some (r, S') → J K 159 [(0, .ref 98), (1, .int x1), (2, .int v)] [] S :=
  lp_J (P := fun (v : Int32) (S : St) => J K 159 [(0, .ref 98), (1, .int x1), (2, .int v)] [] S) (fun k hk v S hf => by
    unfold f_X9_measure_159b at hf
    refine j_iload_n hK dX9_measure_159 2 rfl rfl ?_
    refine j_bipush hK (8 : Int32) dX9_measure_160 bi_8 ?_
    refine j_icmp_ge hK 204 dX9_measure_162 (by decide) (fun hc => ?_) (fun hc => ?_)
    · replace hf := if_1 hc hf
      refine j_sub [0, 1] rfl ?_
      exact he _ _ hf
    · replace hf := if_2 hc hf
      refine j_iconst hK (0 : Int32) dX9_measure_165 ic_0 ?_
      refine j_istore_n hK (L' := [(3, .int (0 : Int32)), (0, .ref 98), (1, .int x1), (2, .int v)]) dX9_measure_166 rfl (by decide) rfl ?_
      refine j_sub [1, 2, 3, 0] rfl ?_
      refine t_X9_measure_167 hK hA  (fun v10 S11 hf => ?_) _ _ _ hf
      refine j_iinc hK (L' := [(2, .int (v + (1 : Int32))), (0, .ref 98), (1, .int x1)]) dX9_measure_198 2 rfl (congrArg (fun y => v + y) ic_1) (by decide) rfl ?_
      refine j_goto hK 159 dX9_measure_201 (by decide) ?_
      refine j_sub [1, 2, 0] rfl ?_
      exact hk _ _ hf)
def f_X9_measure_151b (e : Int32 → St → Option (Unit × St)) (k : Int32 → St → Option (Unit × St)) (v : Int32) (S : St) : Option (Unit × St) := (if (8 : Int32) ≤ v then e v S else lp (f_X9_measure_159b v (fun v12 S13 => k (v + (1 : Int32)) S13)) FU (0 : Int32) S)
theorem t_X9_measure_151 {K : CT} (hK : KO K cX9_measure RX9 4 2 none) {r : Unit} {S' : St} (hA : zans K = (none, S')) {e : Int32 → St → Option (Unit × St)} (he : ∀ (v : Int32) (S : St), e v S = some (r, S') → J K 210 [] [] S) : ∀ (n : Nat) (v : Int32) (S : St), lp (f_X9_measure_151b  e) n v S = some (r, S') → J K 151 [(0, .ref 98), (1, .int v)] [] S :=
  lp_J (P := fun (v : Int32) (S : St) => J K 151 [(0, .ref 98), (1, .int v)] [] S) (fun k hk v S hf => by
    unfold f_X9_measure_151b at hf
    refine j_iload_n hK dX9_measure_151 1 rfl rfl ?_
    refine j_bipush hK (8 : Int32) dX9_measure_152 bi_8 ?_
    refine j_icmp_ge hK 210 dX9_measure_154 (by decide) (fun hc => ?_) (fun hc => ?_)
    · replace hf := if_1 hc hf
      refine j_sub [] rfl ?_
      exact he _ _ hf
    · replace hf := if_2 hc hf
      refine j_iconst hK (0 : Int32) dX9_measure_157 ic_0 ?_
      refine j_istore_n hK (L' := [(2, .int (0 : Int32)), (0, .ref 98), (1, .int v)]) dX9_measure_158 rfl (by decide) rfl ?_
      refine j_sub [1, 2, 0] rfl ?_
      refine t_X9_measure_159 hK hA  (fun v12 S13 hf => ?_) _ _ _ hf
      refine j_iinc hK (L' := [(1, .int (v + (1 : Int32))), (0, .ref 98)]) dX9_measure_204 1 rfl (congrArg (fun y => v + y) ic_1) (by decide) rfl ?_
      refine j_goto hK 151 dX9_measure_207 (by decide) ?_
      refine j_sub [1, 0] rfl ?_
      exact hk _ _ hf)
def f_X9_measure_143 (x1 : Int32) (k e : Int32 → St → Option (Unit × St)) (S : St) : Option (Unit × St) := k (x1 + (1 : Int32)) S
theorem t_X9_measure_143 {K : CT} (hK : KO K cX9_measure RX9 4 2 none) {r : Unit} {S' : St} (hA : zans K = (none, S')) {x1 : Int32} {k e : Int32 → St → Option (Unit × St)} (hk : ∀ (v : Int32) (S : St), k v S = some (r, S') → J K 53 [(0, .ref 98), (1, .int v)] [] S) (he : ∀ (v : Int32) (S : St), e v S = some (r, S') → J K 149 [(0, .ref 98)] [] S) {S : St} (hf : f_X9_measure_143 x1 k e S = some (r, S')) : J K 143 [(0, .ref 98), (1, .int x1)] [] S := by
  unfold f_X9_measure_143 at hf
  refine j_iinc hK (L' := [(1, .int (x1 + (1 : Int32))), (0, .ref 98)]) dX9_measure_143 1 rfl (congrArg (fun y => x1 + y) ic_1) (by decide) rfl ?_
  refine j_goto hK 53 dX9_measure_146 (by decide) ?_
  refine j_sub [1, 0] rfl ?_
  exact hk _ _ hf
def f_X9_measure_53b (e : Int32 → St → Option (Unit × St)) (k : Int32 → St → Option (Unit × St)) (v : Int32) (S : St) : Option (Unit × St) := (if (gI S 3 2) ≤ v then e v S else bd (f_X0_isOpen v S) (fun r14 S15 => (if r14 = 0 then f_X9_measure_143 v k e S15 else if inb v 12 then if inb v 12 then if inb v 12 then bd (f_X9_shorten (gI S15 4 v.toNatClampNeg) (gI S15 5 v.toNatClampNeg) (gI S15 7 v.toNatClampNeg) S15) (fun r20 S21 => if inb v 12 then if inb v 12 then if inb v 12 then bd (f_X9_shorten (gI S21 5 v.toNatClampNeg) (gI S21 4 v.toNatClampNeg) (gI S21 7 v.toNatClampNeg) S21) (fun r26 S27 => f_X9_measure_143 v k e S27) else none else none else none) else none else none else none)))
theorem t_X9_measure_53 {K : CT} (hK : KO K cX9_measure RX9 4 2 none) {r : Unit} {S' : St} (hA : zans K = (none, S')) {e : Int32 → St → Option (Unit × St)} (he : ∀ (v : Int32) (S : St), e v S = some (r, S') → J K 149 [(0, .ref 98)] [] S) : ∀ (n : Nat) (v : Int32) (S : St), lp (f_X9_measure_53b  e) n v S = some (r, S') → J K 53 [(0, .ref 98), (1, .int v)] [] S :=
  lp_J (P := fun (v : Int32) (S : St) => J K 53 [(0, .ref 98), (1, .int v)] [] S) (fun k hk v S hf => by
    unfold f_X9_measure_53b at hf
    refine j_iload_n hK dX9_measure_53 1 rfl rfl ?_
    refine j_aload_n hK dX9_measure_54 0 rfl rfl ?_
    refine j_getR hK fl_X9_9 dX9_measure_55 zo_98 zf_9_0 zr_98_0 ?_
    refine j_getI hK fl_X9_22 dX9_measure_58 zo_3 zf_0_2 ?_
    refine j_icmp_ge hK 149 dX9_measure_61 (by decide) (fun hc => ?_) (fun hc => ?_)
    · replace hf := if_1 hc hf
      refine j_sub [0] rfl ?_
      exact he _ _ hf
    · replace hf := if_2 hc hf
      refine j_aload_n hK dX9_measure_64 0 rfl rfl ?_
      refine j_getR hK fl_X9_9 dX9_measure_65 zo_98 zf_9_0 zr_98_0 ?_
      refine j_iload_n hK dX9_measure_68 1 rfl rfl ?_
      obtain ⟨r14, S15, h16, hf⟩ := bd_J hf
      refine k_callVi hK (c_X0_isOpen h16) dX9_measure_69 zclX0 zo_3 ml_X9_28 mi_X0_isOpen mx_X0_isOpen in_X0 mc_X0_isOpen hy_X0_isOpen ⟨by decide, by decide⟩ rfl (Nat.le_of_ble_eq_true rfl) ?_
      refine j_if_eq hK 143 dX9_measure_72 (by decide) (fun hc => ?_) (fun hc => ?_)
      · replace hf := if_1 hc hf
        exact t_X9_measure_143 hK hA hk he hf
      · replace hf := if_2 hc hf
        refine j_aload_n hK dX9_measure_75 0 rfl rfl ?_
        refine j_aload_n hK dX9_measure_76 0 rfl rfl ?_
        refine j_getR hK fl_X9_9 dX9_measure_77 zo_98 zf_9_0 zr_98_0 ?_
        refine j_getR hK fl_X9_32 dX9_measure_80 zo_3 zf_0_0 zr_3_0 ?_
        refine j_iload_n hK dX9_measure_83 1 rfl rfl ?_
        obtain ⟨hi17, hf⟩ := gd hf
        refine k_iald hK dX9_measure_84 zb_4 hi17 rfl ?_
        refine j_aload_n hK dX9_measure_85 0 rfl rfl ?_
        refine j_pc (pc' := 86) rfl ?_
        refine j_getR hK fl_X9_9 dX9_measure_86 zo_98 zf_9_0 zr_98_0 ?_
        refine j_getR hK fl_X9_35 dX9_measure_89 zo_3 zf_0_1 zr_3_1 ?_
        refine j_iload_n hK dX9_measure_92 1 rfl rfl ?_
        obtain ⟨hi18, hf⟩ := gd hf
        refine k_iald hK dX9_measure_93 zb_5 hi18 rfl ?_
        refine j_aload_n hK dX9_measure_94 0 rfl rfl ?_
        refine j_getR hK fl_X9_9 dX9_measure_95 zo_98 zf_9_0 zr_98_0 ?_
        refine j_getR hK fl_X9_38 dX9_measure_98 zo_3 zf_0_3 zr_3_3 ?_
        refine j_getR hK fl_X9_42 dX9_measure_101 zo_6 zf_7_0 zr_6_0 ?_
        refine j_pc (pc' := 104) rfl ?_
        refine j_iload_n hK dX9_measure_104 1 rfl rfl ?_
        obtain ⟨hi19, hf⟩ := gd hf
        refine k_iald hK dX9_measure_105 zb_7 hi19 rfl ?_
        obtain ⟨r20, S21, h22, hf⟩ := bd_J hf
        refine k_callVv hK (c_X9_shorten h22) dX9_measure_106 zclX9 zo_98 ml_X9_47 mi_X9_shorten mx_X9_shorten in_X9 mc_X9_shorten hy_X9_shorten ⟨by decide, by decide⟩ rfl (Nat.le_of_ble_eq_true rfl) ?_
        refine j_aload_n hK dX9_measure_109 0 rfl rfl ?_
        refine j_aload_n hK dX9_measure_110 0 rfl rfl ?_
        refine j_getR hK fl_X9_9 dX9_measure_111 zo_98 zf_9_0 zr_98_0 ?_
        refine j_getR hK fl_X9_35 dX9_measure_114 zo_3 zf_0_1 zr_3_1 ?_
        refine j_iload_n hK dX9_measure_117 1 rfl rfl ?_
        refine j_pc (pc' := 118) rfl ?_
        obtain ⟨hi23, hf⟩ := gd hf
        refine k_iald hK dX9_measure_118 zb_5 hi23 rfl ?_
        refine j_aload_n hK dX9_measure_119 0 rfl rfl ?_
        refine j_getR hK fl_X9_9 dX9_measure_120 zo_98 zf_9_0 zr_98_0 ?_
        refine j_getR hK fl_X9_32 dX9_measure_123 zo_3 zf_0_0 zr_3_0 ?_
        refine j_iload_n hK dX9_measure_126 1 rfl rfl ?_
        obtain ⟨hi24, hf⟩ := gd hf
        refine k_iald hK dX9_measure_127 zb_4 hi24 rfl ?_
        refine j_aload_n hK dX9_measure_128 0 rfl rfl ?_
        refine j_getR hK fl_X9_9 dX9_measure_129 zo_98 zf_9_0 zr_98_0 ?_
        refine j_pc (pc' := 132) rfl ?_
        refine j_getR hK fl_X9_38 dX9_measure_132 zo_3 zf_0_3 zr_3_3 ?_
        refine j_getR hK fl_X9_42 dX9_measure_135 zo_6 zf_7_0 zr_6_0 ?_
        refine j_iload_n hK dX9_measure_138 1 rfl rfl ?_
        obtain ⟨hi25, hf⟩ := gd hf
        refine k_iald hK dX9_measure_139 zb_7 hi25 rfl ?_
        obtain ⟨r26, S27, h28, hf⟩ := bd_J hf
        refine k_callVv hK (c_X9_shorten h28) dX9_measure_140 zclX9 zo_98 ml_X9_47 mi_X9_shorten mx_X9_shorten in_X9 mc_X9_shorten hy_X9_shorten ⟨by decide, by decide⟩ rfl (Nat.le_of_ble_eq_true rfl) ?_
        exact t_X9_measure_143 hK hA hk he hf)
def f_X9_measure_38 (x1 : Int32) (x2 : Int32) (s1 : Int32) (s2 : Int32) (k e : Int32 → St → Option (Unit × St)) (S : St) : Option (Unit × St) := if inb s1 64 then lt (sI S 99 s1.toNatClampNeg s2) (fun S30 => k (x2 + (1 : Int32)) S30) else none
theorem t_X9_measure_38 {K : CT} (hK : KO K cX9_measure RX9 4 2 none) {r : Unit} {S' : St} (hA : zans K = (none, S')) {x1 : Int32} {x2 : Int32} {s1 : Int32} {s2 : Int32} {k e : Int32 → St → Option (Unit × St)} (hk : ∀ (v : Int32) (S : St), k v S = some (r, S') → J K 10 [(0, .ref 98), (1, .int x1), (2, .int v)] [] S) (he : ∀ (v : Int32) (S : St), e v S = some (r, S') → J K 45 [(0, .ref 98), (1, .int x1)] [] S) {S : St} (hf : f_X9_measure_38 x1 x2 s1 s2 k e S = some (r, S')) : J K 38 [(0, .ref 98), (1, .int x1), (2, .int x2)] [.int s2, .int s1, .ref 99] S := by
  unfold f_X9_measure_38 at hf
  obtain ⟨hi29, hf⟩ := gd hf
  refine k_iast hK dX9_measure_38 zb_99 hi29 rfl ?_
  refine lt_S hf (fun S30 hf => ?_)
  refine j_iinc hK (L' := [(2, .int (x2 + (1 : Int32))), (0, .ref 98), (1, .int x1)]) dX9_measure_39 2 rfl (congrArg (fun y => x2 + y) ic_1) (by decide) rfl ?_
  refine j_goto hK 10 dX9_measure_42 (by decide) ?_
  refine j_sub [1, 2, 0] rfl ?_
  exact hk _ _ hf
def f_X9_measure_10b (x1 : Int32) (e : Int32 → St → Option (Unit × St)) (k : Int32 → St → Option (Unit × St)) (v : Int32) (S : St) : Option (Unit × St) := (if (8 : Int32) ≤ v then e v S else (if x1 = v then f_X9_measure_38 x1 v ((x1 * (8 : Int32)) + v) (0 : Int32) k e S else f_X9_measure_38 x1 v ((x1 * (8 : Int32)) + v) (1000 : Int32) k e S))
theorem t_X9_measure_10 {K : CT} (hK : KO K cX9_measure RX9 4 2 none) {r : Unit} {S' : St} (hA : zans K = (none, S')) {x1 : Int32} {e : Int32 → St → Option (Unit × St)} (he : ∀ (v : Int32) (S : St), e v S = some (r, S') → J K 45 [(0, .ref 98), (1, .int x1)] [] S) : ∀ (n : Nat) (v : Int32) (S : St), lp (f_X9_measure_10b x1 e) n v S = some (r, S') → J K 10 [(0, .ref 98), (1, .int x1), (2, .int v)] [] S :=
  lp_J (P := fun (v : Int32) (S : St) => J K 10 [(0, .ref 98), (1, .int x1), (2, .int v)] [] S) (fun k hk v S hf => by
    unfold f_X9_measure_10b at hf
    refine j_iload_n hK dX9_measure_10 2 rfl rfl ?_
    refine j_bipush hK (8 : Int32) dX9_measure_11 bi_8 ?_
    refine j_icmp_ge hK 45 dX9_measure_13 (by decide) (fun hc => ?_) (fun hc => ?_)
    · replace hf := if_1 hc hf
      refine j_sub [0, 1] rfl ?_
      exact he _ _ hf
    · replace hf := if_2 hc hf
      refine j_aload_n hK dX9_measure_16 0 rfl rfl ?_
      refine j_getR hK fl_X9_15 dX9_measure_17 zo_98 zf_9_1 zr_98_1 ?_
      refine j_iload_n hK dX9_measure_20 1 rfl rfl ?_
      refine j_bipush hK (8 : Int32) dX9_measure_21 bi_8 ?_
      refine j_imul hK dX9_measure_23 ?_
      refine j_iload_n hK dX9_measure_24 2 rfl rfl ?_
      refine j_iadd hK dX9_measure_25 ?_
      refine j_pc (pc' := 26) rfl ?_
      refine j_iload_n hK dX9_measure_26 1 rfl rfl ?_
      refine j_iload_n hK dX9_measure_27 2 rfl rfl ?_
      refine j_icmp_ne hK 35 dX9_measure_28 (by decide) (fun hc => ?_) (fun hc => ?_)
      · replace hf := if_2 hc hf
        refine j_sipush hK (1000 : Int32) dX9_measure_35 si_1000 ?_
        exact t_X9_measure_38 hK hA hk he hf
      · replace hf := if_1 hc hf
        refine j_iconst hK (0 : Int32) dX9_measure_31 ic_0 ?_
        refine j_goto hK 38 dX9_measure_32 (by decide) ?_
        exact t_X9_measure_38 hK hA hk he hf)
def f_X9_measure_2b (e : Int32 → St → Option (Unit × St)) (k : Int32 → St → Option (Unit × St)) (v : Int32) (S : St) : Option (Unit × St) := (if (8 : Int32) ≤ v then e v S else lp (f_X9_measure_10b v (fun v31 S32 => k (v + (1 : Int32)) S32)) FU (0 : Int32) S)
theorem t_X9_measure_2 {K : CT} (hK : KO K cX9_measure RX9 4 2 none) {r : Unit} {S' : St} (hA : zans K = (none, S')) {e : Int32 → St → Option (Unit × St)} (he : ∀ (v : Int32) (S : St), e v S = some (r, S') → J K 51 [(0, .ref 98)] [] S) : ∀ (n : Nat) (v : Int32) (S : St), lp (f_X9_measure_2b  e) n v S = some (r, S') → J K 2 [(0, .ref 98), (1, .int v)] [] S :=
  lp_J (P := fun (v : Int32) (S : St) => J K 2 [(0, .ref 98), (1, .int v)] [] S) (fun k hk v S hf => by
    unfold f_X9_measure_2b at hf
    refine j_iload_n hK dX9_measure_2 1 rfl rfl ?_
    refine j_bipush hK (8 : Int32) dX9_measure_3 bi_8 ?_
    refine j_icmp_ge hK 51 dX9_measure_5 (by decide) (fun hc => ?_) (fun hc => ?_)
    · replace hf := if_1 hc hf
      refine j_sub [0] rfl ?_
      exact he _ _ hf
    · replace hf := if_2 hc hf
      refine j_iconst hK (0 : Int32) dX9_measure_8 ic_0 ?_
      refine j_istore_n hK (L' := [(2, .int (0 : Int32)), (0, .ref 98), (1, .int v)]) dX9_measure_9 rfl (by decide) rfl ?_
      refine j_sub [1, 2, 0] rfl ?_
      refine t_X9_measure_10 hK hA  (fun v31 S32 hf => ?_) _ _ _ hf
      refine j_iinc hK (L' := [(1, .int (v + (1 : Int32))), (0, .ref 98)]) dX9_measure_45 1 rfl (congrArg (fun y => v + y) ic_1) (by decide) rfl ?_
      refine j_goto hK 2 dX9_measure_48 (by decide) ?_
      refine j_sub [1, 0] rfl ?_
      exact hk _ _ hf)
def f_X9_measure (S : St) : Option (Unit × St) := lp (f_X9_measure_2b  (fun v33 S34 => lp (f_X9_measure_53b  (fun v35 S36 => lp (f_X9_measure_151b  (fun v37 S38 => some ((), S38))) FU (0 : Int32) S36)) FU (0 : Int32) S34)) FU (0 : Int32) S
theorem c_X9_measure {S : St} {r : Unit} {S' : St} (hf : f_X9_measure S = some (r, S')) : zM yX9_measure cX9_measure 4 2 none [.ref 98] S (none) S' := by
  refine zM_of (zpl (by decide)) (Nat.le_of_ble_eq_true rfl) rfl (fun K hK hA => ?_)
  unfold f_X9_measure at hf
  refine j_iconst hK (0 : Int32) dX9_measure_0 ic_0 ?_
  refine j_istore_n hK (L' := [(1, .int (0 : Int32)), (0, .ref 98)]) dX9_measure_1 rfl (by decide) rfl ?_
  refine j_sub [1, 0] rfl ?_
  refine t_X9_measure_2 hK hA  (fun v33 S34 hf => ?_) _ _ _ hf
  refine j_iconst hK (0 : Int32) dX9_measure_51 ic_0 ?_
  refine j_istore_n hK (L' := [(1, .int (0 : Int32)), (0, .ref 98)]) dX9_measure_52 rfl (by decide) rfl ?_
  refine j_sub [1, 0] rfl ?_
  refine t_X9_measure_53 hK hA  (fun v35 S36 hf => ?_) _ _ _ hf
  refine j_iconst hK (0 : Int32) dX9_measure_149 ic_0 ?_
  refine j_istore_n hK (L' := [(1, .int (0 : Int32)), (0, .ref 98)]) dX9_measure_150 rfl (by decide) rfl ?_
  refine j_sub [1, 0] rfl ?_
  refine t_X9_measure_151 hK hA  (fun v37 S38 hf => ?_) _ _ _ hf
  exact j_vret hK dX9_measure_210 rfl (rt_V hA hf)
def f_X9_joinedTo_28 (x1 : Int32) (x2 : Int32) (x3 : Int32) (k e : Int32 × Int32 → St → Option (Int32 × St)) (S : St) : Option (Int32 × St) := k (x2, (x3 + (1 : Int32))) S
theorem t_X9_joinedTo_28 {K : CT} (hK : KO K cX9_joinedTo RX9 4 2 (some .int)) {r : Int32} {S' : St} (hA : zans K = (some (.int r), S')) {x1 : Int32} {x2 : Int32} {x3 : Int32} {k e : Int32 × Int32 → St → Option (Int32 × St)} (hk : ∀ (v : Int32 × Int32) (S : St), k v S = some (r, S') → J K 4 [(0, .ref 98), (1, .int x1), (2, .int v.1), (3, .int v.2)] [] S) (he : ∀ (v : Int32 × Int32) (S : St), e v S = some (r, S') → J K 34 [(2, .int v.1)] [] S) {S : St} (hf : f_X9_joinedTo_28 x1 x2 x3 k e S = some (r, S')) : J K 28 [(0, .ref 98), (1, .int x1), (2, .int x2), (3, .int x3)] [] S := by
  unfold f_X9_joinedTo_28 at hf
  refine j_iinc hK (L' := [(3, .int (x3 + (1 : Int32))), (0, .ref 98), (1, .int x1), (2, .int x2)]) dX9_joinedTo_28 3 rfl (congrArg (fun y => x3 + y) ic_1) (by decide) rfl ?_
  refine j_goto hK 4 dX9_joinedTo_31 (by decide) ?_
  refine j_sub [1, 2, 3, 0] rfl ?_
  exact hk _ _ hf
def f_X9_joinedTo_4b (x1 : Int32) (e : Int32 × Int32 → St → Option (Int32 × St)) (k : Int32 × Int32 → St → Option (Int32 × St)) (v : Int32 × Int32) (S : St) : Option (Int32 × St) := (if (8 : Int32) ≤ v.2 then e (v.1, v.2) S else bd (f_X9_farOf x1 v.2 S) (fun r1 S2 => (if (1000 : Int32) ≤ r1 then f_X9_joinedTo_28 x1 v.1 v.2 k e S2 else lt (v.1 ||| ((1 : Int32) <<< (v.2 &&& 31))) (fun y4 => f_X9_joinedTo_28 x1 y4 v.2 k e S2))))
theorem t_X9_joinedTo_4 {K : CT} (hK : KO K cX9_joinedTo RX9 4 2 (some .int)) {r : Int32} {S' : St} (hA : zans K = (some (.int r), S')) {x1 : Int32} {e : Int32 × Int32 → St → Option (Int32 × St)} (he : ∀ (v : Int32 × Int32) (S : St), e v S = some (r, S') → J K 34 [(2, .int v.1)] [] S) : ∀ (n : Nat) (v : Int32 × Int32) (S : St), lp (f_X9_joinedTo_4b x1 e) n v S = some (r, S') → J K 4 [(0, .ref 98), (1, .int x1), (2, .int v.1), (3, .int v.2)] [] S :=
  lp_J (P := fun (v : Int32 × Int32) (S : St) => J K 4 [(0, .ref 98), (1, .int x1), (2, .int v.1), (3, .int v.2)] [] S) (fun k hk v S hf => by
    unfold f_X9_joinedTo_4b at hf
    refine j_iload_n hK dX9_joinedTo_4 3 rfl rfl ?_
    refine j_bipush hK (8 : Int32) dX9_joinedTo_5 bi_8 ?_
    refine j_icmp_ge hK 34 dX9_joinedTo_7 (by decide) (fun hc => ?_) (fun hc => ?_)
    · replace hf := if_1 hc hf
      refine j_sub [2] rfl ?_
      exact he _ _ hf
    · replace hf := if_2 hc hf
      refine j_aload_n hK dX9_joinedTo_10 0 rfl rfl ?_
      refine j_iload_n hK dX9_joinedTo_11 1 rfl rfl ?_
      refine j_iload_n hK dX9_joinedTo_12 3 rfl rfl ?_
      obtain ⟨r1, S2, h3, hf⟩ := bd_J hf
      refine k_callVi hK (c_X9_farOf h3) dX9_joinedTo_13 zclX9 zo_98 ml_X9_51 mi_X9_farOf mx_X9_farOf in_X9 mc_X9_farOf hy_X9_farOf ⟨by decide, by decide⟩ rfl (Nat.le_of_ble_eq_true rfl) ?_
      refine j_sipush hK (1000 : Int32) dX9_joinedTo_16 si_1000 ?_
      refine j_icmp_ge hK 28 dX9_joinedTo_19 (by decide) (fun hc => ?_) (fun hc => ?_)
      · replace hf := if_1 hc hf
        exact t_X9_joinedTo_28 hK hA hk he hf
      · replace hf := if_2 hc hf
        refine j_iload_n hK dX9_joinedTo_22 2 rfl rfl ?_
        refine j_iconst hK (1 : Int32) dX9_joinedTo_23 ic_1 ?_
        refine j_iload_n hK dX9_joinedTo_24 3 rfl rfl ?_
        refine j_ishl hK dX9_joinedTo_25 ?_
        refine j_ior hK dX9_joinedTo_26 ?_
        refine lt_I hf (fun y4 hf => ?_)
        refine j_istore_n hK (L' := [(2, .int y4), (0, .ref 98), (1, .int x1), (3, .int v.2)]) dX9_joinedTo_27 rfl (by decide) rfl ?_
        refine j_sub [1, 2, 0, 3] rfl ?_
        exact t_X9_joinedTo_28 hK hA hk he hf)
def f_X9_joinedTo (p1 : Int32) (S : St) : Option (Int32 × St) := lp (f_X9_joinedTo_4b p1 (fun v5 S6 => some (v5.1, S6))) FU ((0 : Int32), (0 : Int32)) S
theorem c_X9_joinedTo {p1 : Int32} {S : St} {r : Int32} {S' : St} (hf : f_X9_joinedTo p1 S = some (r, S')) : zM yX9_joinedTo cX9_joinedTo 4 2 (some .int) [.ref 98, .int p1] S (some (.int r)) S' := by
  refine zM_of (zpl (by decide)) (Nat.le_of_ble_eq_true rfl) rfl (fun K hK hA => ?_)
  unfold f_X9_joinedTo at hf
  refine j_iconst hK (0 : Int32) dX9_joinedTo_0 ic_0 ?_
  refine j_istore_n hK (L' := [(2, .int (0 : Int32)), (0, .ref 98), (1, .int p1)]) dX9_joinedTo_1 rfl (by decide) rfl ?_
  refine j_iconst hK (0 : Int32) dX9_joinedTo_2 ic_0 ?_
  refine j_istore_n hK (L' := [(3, .int (0 : Int32)), (2, .int (0 : Int32)), (0, .ref 98), (1, .int p1)]) dX9_joinedTo_3 rfl (by decide) rfl ?_
  refine j_sub [2, 3, 1, 0] rfl ?_
  refine t_X9_joinedTo_4 hK hA  (fun v5 S6 hf => ?_) _ _ _ hf
  refine j_iload_n hK dX9_joinedTo_34 0 rfl rfl ?_
  exact j_iret hK dX9_joinedTo_35 rfl (rt_I hA hf)
def f_X9_farthestOf_33 (x1 : Int32) (x2 : Int32) (x3 : Int32) (k e : Int32 × Int32 → St → Option (Int32 × St)) (S : St) : Option (Int32 × St) := k (x2, (x3 + (1 : Int32))) S
theorem t_X9_farthestOf_33 {K : CT} (hK : KO K cX9_farthestOf RX9 4 2 (some .int)) {r : Int32} {S' : St} (hA : zans K = (some (.int r), S')) {x1 : Int32} {x2 : Int32} {x3 : Int32} {k e : Int32 × Int32 → St → Option (Int32 × St)} (hk : ∀ (v : Int32 × Int32) (S : St), k v S = some (r, S') → J K 4 [(0, .ref 98), (1, .int x1), (2, .int v.1), (3, .int v.2)] [] S) (he : ∀ (v : Int32 × Int32) (S : St), e v S = some (r, S') → J K 39 [(2, .int v.1)] [] S) {S : St} (hf : f_X9_farthestOf_33 x1 x2 x3 k e S = some (r, S')) : J K 33 [(0, .ref 98), (1, .int x1), (2, .int x2), (3, .int x3)] [] S := by
  unfold f_X9_farthestOf_33 at hf
  refine j_iinc hK (L' := [(3, .int (x3 + (1 : Int32))), (0, .ref 98), (1, .int x1), (2, .int x2)]) dX9_farthestOf_33 3 rfl (congrArg (fun y => x3 + y) ic_1) (by decide) rfl ?_
  refine j_goto hK 4 dX9_farthestOf_36 (by decide) ?_
  refine j_sub [1, 2, 3, 0] rfl ?_
  exact hk _ _ hf
def f_X9_farthestOf_4b (x1 : Int32) (e : Int32 × Int32 → St → Option (Int32 × St)) (k : Int32 × Int32 → St → Option (Int32 × St)) (v : Int32 × Int32) (S : St) : Option (Int32 × St) := (if (8 : Int32) ≤ v.2 then e (v.1, v.2) S else bd (f_X9_farOf x1 v.2 S) (fun r1 S2 => (if (1000 : Int32) ≤ r1 then f_X9_farthestOf_33 x1 v.1 v.2 k e S2 else bd (f_X9_farOf x1 v.2 S2) (fun r4 S5 => lt (mxI v.1 r4) (fun y7 => f_X9_farthestOf_33 x1 y7 v.2 k e S5)))))
theorem t_X9_farthestOf_4 {K : CT} (hK : KO K cX9_farthestOf RX9 4 2 (some .int)) {r : Int32} {S' : St} (hA : zans K = (some (.int r), S')) {x1 : Int32} {e : Int32 × Int32 → St → Option (Int32 × St)} (he : ∀ (v : Int32 × Int32) (S : St), e v S = some (r, S') → J K 39 [(2, .int v.1)] [] S) : ∀ (n : Nat) (v : Int32 × Int32) (S : St), lp (f_X9_farthestOf_4b x1 e) n v S = some (r, S') → J K 4 [(0, .ref 98), (1, .int x1), (2, .int v.1), (3, .int v.2)] [] S :=
  lp_J (P := fun (v : Int32 × Int32) (S : St) => J K 4 [(0, .ref 98), (1, .int x1), (2, .int v.1), (3, .int v.2)] [] S) (fun k hk v S hf => by
    unfold f_X9_farthestOf_4b at hf
    refine j_iload_n hK dX9_farthestOf_4 3 rfl rfl ?_
    refine j_bipush hK (8 : Int32) dX9_farthestOf_5 bi_8 ?_
    refine j_icmp_ge hK 39 dX9_farthestOf_7 (by decide) (fun hc => ?_) (fun hc => ?_)
    · replace hf := if_1 hc hf
      refine j_sub [2] rfl ?_
      exact he _ _ hf
    · replace hf := if_2 hc hf
      refine j_aload_n hK dX9_farthestOf_10 0 rfl rfl ?_
      refine j_iload_n hK dX9_farthestOf_11 1 rfl rfl ?_
      refine j_iload_n hK dX9_farthestOf_12 3 rfl rfl ?_
      obtain ⟨r1, S2, h3, hf⟩ := bd_J hf
      refine k_callVi hK (c_X9_farOf h3) dX9_farthestOf_13 zclX9 zo_98 ml_X9_51 mi_X9_farOf mx_X9_farOf in_X9 mc_X9_farOf hy_X9_farOf ⟨by decide, by decide⟩ rfl (Nat.le_of_ble_eq_true rfl) ?_
      refine j_sipush hK (1000 : Int32) dX9_farthestOf_16 si_1000 ?_
      refine j_icmp_ge hK 33 dX9_farthestOf_19 (by decide) (fun hc => ?_) (fun hc => ?_)
      · replace hf := if_1 hc hf
        exact t_X9_farthestOf_33 hK hA hk he hf
      · replace hf := if_2 hc hf
        refine j_iload_n hK dX9_farthestOf_22 2 rfl rfl ?_
        refine j_aload_n hK dX9_farthestOf_23 0 rfl rfl ?_
        refine j_iload_n hK dX9_farthestOf_24 1 rfl rfl ?_
        refine j_iload_n hK dX9_farthestOf_25 3 rfl rfl ?_
        obtain ⟨r4, S5, h6, hf⟩ := bd_J hf
        refine k_callVi hK (c_X9_farOf h6) dX9_farthestOf_26 zclX9 zo_98 ml_X9_51 mi_X9_farOf mx_X9_farOf in_X9 mc_X9_farOf hy_X9_farOf ⟨by decide, by decide⟩ rfl (Nat.le_of_ble_eq_true rfl) ?_
        refine j_max hK ml_X9_60 dX9_farthestOf_29 (by decide) (Nat.le_of_ble_eq_true rfl) ?_
        refine lt_I hf (fun y7 hf => ?_)
        refine j_istore_n hK (L' := [(2, .int y7), (0, .ref 98), (1, .int x1), (3, .int v.2)]) dX9_farthestOf_32 rfl (by decide) rfl ?_
        refine j_sub [1, 2, 0, 3] rfl ?_
        exact t_X9_farthestOf_33 hK hA hk he hf)
def f_X9_farthestOf (p1 : Int32) (S : St) : Option (Int32 × St) := lp (f_X9_farthestOf_4b p1 (fun v8 S9 => some (v8.1, S9))) FU ((0 : Int32), (0 : Int32)) S
theorem c_X9_farthestOf {p1 : Int32} {S : St} {r : Int32} {S' : St} (hf : f_X9_farthestOf p1 S = some (r, S')) : zM yX9_farthestOf cX9_farthestOf 4 2 (some .int) [.ref 98, .int p1] S (some (.int r)) S' := by
  refine zM_of (zpl (by decide)) (Nat.le_of_ble_eq_true rfl) rfl (fun K hK hA => ?_)
  unfold f_X9_farthestOf at hf
  refine j_iconst hK (0 : Int32) dX9_farthestOf_0 ic_0 ?_
  refine j_istore_n hK (L' := [(2, .int (0 : Int32)), (0, .ref 98), (1, .int p1)]) dX9_farthestOf_1 rfl (by decide) rfl ?_
  refine j_iconst hK (0 : Int32) dX9_farthestOf_2 ic_0 ?_
  refine j_istore_n hK (L' := [(3, .int (0 : Int32)), (2, .int (0 : Int32)), (0, .ref 98), (1, .int p1)]) dX9_farthestOf_3 rfl (by decide) rfl ?_
  refine j_sub [2, 3, 1, 0] rfl ?_
  refine t_X9_farthestOf_4 hK hA  (fun v8 S9 hf => ?_) _ _ _ hf
  refine j_iload_n hK dX9_farthestOf_39 0 rfl rfl ?_
  exact j_iret hK dX9_farthestOf_40 rfl (rt_I hA hf)
def f_X9_firstStep_78 (x1 : Int32) (x2 : Int32) (x3 : Int32) (k e : Int32 → St → Option (Int32 × St)) (S : St) : Option (Int32 × St) := k (x3 + (1 : Int32)) S
theorem t_X9_firstStep_78 {K : CT} (hK : KO K cX9_firstStep RX9 5 2 (some .int)) {r : Int32} {S' : St} (hA : zans K = (some (.int r), S')) {x1 : Int32} {x2 : Int32} {x3 : Int32} {k e : Int32 → St → Option (Int32 × St)} (hk : ∀ (v : Int32) (S : St), k v S = some (r, S') → J K 2 [(0, .ref 98), (1, .int x1), (2, .int x2), (3, .int v)] [] S) (he : ∀ (v : Int32) (S : St), e v S = some (r, S') → J K 84 [] [] S) {S : St} (hf : f_X9_firstStep_78 x1 x2 x3 k e S = some (r, S')) : J K 78 [(0, .ref 98), (1, .int x1), (2, .int x2), (3, .int x3)] [] S := by
  unfold f_X9_firstStep_78 at hf
  refine j_iinc hK (L' := [(3, .int (x3 + (1 : Int32))), (0, .ref 98), (1, .int x1), (2, .int x2)]) dX9_firstStep_78 3 rfl (congrArg (fun y => x3 + y) ic_1) (by decide) rfl ?_
  refine j_goto hK 2 dX9_firstStep_81 (by decide) ?_
  refine j_sub [1, 2, 3, 0] rfl ?_
  exact hk _ _ hf
def f_X9_firstStep_2b (x1 : Int32) (x2 : Int32) (e : Int32 → St → Option (Int32 × St)) (k : Int32 → St → Option (Int32 × St)) (v : Int32) (S : St) : Option (Int32 × St) := (if (gI S 3 2) ≤ v then e v S else bd (f_X0_isOpen v S) (fun r1 S2 => (if r1 = 0 then f_X9_firstStep_78 x1 x2 v k e S2 else bd (f_X0_isEnd x1 v S2) (fun r4 S5 => (if r4 = 0 then f_X9_firstStep_78 x1 x2 v k e S5 else bd (f_X0_acrossFrom x1 v S5) (fun r7 S8 => bd (f_X9_farOf r7 x2 S8) (fun r10 S11 => if inb v 12 then bd (f_X9_farOf x1 x2 S11) (fun r14 S15 => (if ((gI S11 7 v.toNatClampNeg) + r10) = r14 then some (v, S15) else f_X9_firstStep_78 x1 x2 v k e S15)) else none)))))))
theorem t_X9_firstStep_2 {K : CT} (hK : KO K cX9_firstStep RX9 5 2 (some .int)) {r : Int32} {S' : St} (hA : zans K = (some (.int r), S')) {x1 : Int32} {x2 : Int32} {e : Int32 → St → Option (Int32 × St)} (he : ∀ (v : Int32) (S : St), e v S = some (r, S') → J K 84 [] [] S) : ∀ (n : Nat) (v : Int32) (S : St), lp (f_X9_firstStep_2b x1 x2 e) n v S = some (r, S') → J K 2 [(0, .ref 98), (1, .int x1), (2, .int x2), (3, .int v)] [] S :=
  lp_J (P := fun (v : Int32) (S : St) => J K 2 [(0, .ref 98), (1, .int x1), (2, .int x2), (3, .int v)] [] S) (fun k hk v S hf => by
    unfold f_X9_firstStep_2b at hf
    refine j_iload_n hK dX9_firstStep_2 3 rfl rfl ?_
    refine j_aload_n hK dX9_firstStep_3 0 rfl rfl ?_
    refine j_getR hK fl_X9_9 dX9_firstStep_4 zo_98 zf_9_0 zr_98_0 ?_
    refine j_getI hK fl_X9_22 dX9_firstStep_7 zo_3 zf_0_2 ?_
    refine j_icmp_ge hK 84 dX9_firstStep_10 (by decide) (fun hc => ?_) (fun hc => ?_)
    · replace hf := if_1 hc hf
      refine j_sub [] rfl ?_
      exact he _ _ hf
    · replace hf := if_2 hc hf
      refine j_aload_n hK dX9_firstStep_13 0 rfl rfl ?_
      refine j_getR hK fl_X9_9 dX9_firstStep_14 zo_98 zf_9_0 zr_98_0 ?_
      refine j_iload_n hK dX9_firstStep_17 3 rfl rfl ?_
      obtain ⟨r1, S2, h3, hf⟩ := bd_J hf
      refine k_callVi hK (c_X0_isOpen h3) dX9_firstStep_18 zclX0 zo_3 ml_X9_28 mi_X0_isOpen mx_X0_isOpen in_X0 mc_X0_isOpen hy_X0_isOpen ⟨by decide, by decide⟩ rfl (Nat.le_of_ble_eq_true rfl) ?_
      refine j_if_eq hK 78 dX9_firstStep_21 (by decide) (fun hc => ?_) (fun hc => ?_)
      · replace hf := if_1 hc hf
        exact t_X9_firstStep_78 hK hA hk he hf
      · replace hf := if_2 hc hf
        refine j_aload_n hK dX9_firstStep_24 0 rfl rfl ?_
        refine j_getR hK fl_X9_9 dX9_firstStep_25 zo_98 zf_9_0 zr_98_0 ?_
        refine j_iload_n hK dX9_firstStep_28 1 rfl rfl ?_
        refine j_iload_n hK dX9_firstStep_29 3 rfl rfl ?_
        obtain ⟨r4, S5, h6, hf⟩ := bd_J hf
        refine k_callVi hK (c_X0_isEnd h6) dX9_firstStep_30 zclX0 zo_3 ml_X9_63 mi_X0_isEnd mx_X0_isEnd in_X0 mc_X0_isEnd hy_X0_isEnd ⟨by decide, by decide⟩ rfl (Nat.le_of_ble_eq_true rfl) ?_
        refine j_if_eq hK 78 dX9_firstStep_33 (by decide) (fun hc => ?_) (fun hc => ?_)
        · replace hf := if_1 hc hf
          exact t_X9_firstStep_78 hK hA hk he hf
        · replace hf := if_2 hc hf
          refine j_aload_n hK dX9_firstStep_36 0 rfl rfl ?_
          refine j_aload_n hK dX9_firstStep_37 0 rfl rfl ?_
          refine j_getR hK fl_X9_9 dX9_firstStep_38 zo_98 zf_9_0 zr_98_0 ?_
          refine j_iload_n hK dX9_firstStep_41 1 rfl rfl ?_
          refine j_iload_n hK dX9_firstStep_42 3 rfl rfl ?_
          obtain ⟨r7, S8, h9, hf⟩ := bd_J hf
          refine k_callVi hK (c_X0_acrossFrom h9) dX9_firstStep_43 zclX0 zo_3 ml_X9_67 mi_X0_acrossFrom mx_X0_acrossFrom in_X0 mc_X0_acrossFrom hy_X0_acrossFrom ⟨by decide, by decide⟩ rfl (Nat.le_of_ble_eq_true rfl) ?_
          refine j_iload_n hK dX9_firstStep_46 2 rfl rfl ?_
          refine j_pc (pc' := 47) rfl ?_
          obtain ⟨r10, S11, h12, hf⟩ := bd_J hf
          refine k_callVi hK (c_X9_farOf h12) dX9_firstStep_47 zclX9 zo_98 ml_X9_51 mi_X9_farOf mx_X9_farOf in_X9 mc_X9_farOf hy_X9_farOf ⟨by decide, by decide⟩ rfl (Nat.le_of_ble_eq_true rfl) ?_
          refine j_istore hK (L' := [(4, .int r10), (0, .ref 98), (1, .int x1), (2, .int x2), (3, .int v)]) dX9_firstStep_50 (by decide) rfl ?_
          refine j_aload_n hK dX9_firstStep_52 1 rfl rfl ?_
          refine j_getR hK fl_X9_9 dX9_firstStep_53 zo_98 zf_9_0 zr_98_0 ?_
          refine j_getR hK fl_X9_38 dX9_firstStep_56 zo_3 zf_0_3 zr_3_3 ?_
          refine j_getR hK fl_X9_42 dX9_firstStep_59 zo_6 zf_7_0 zr_6_0 ?_
          refine j_iload_n hK dX9_firstStep_62 4 rfl rfl ?_
          obtain ⟨hi13, hf⟩ := gd hf
          refine k_iald hK dX9_firstStep_63 zb_7 hi13 rfl ?_
          refine j_pc (pc' := 64) rfl ?_
          refine j_iload hK dX9_firstStep_64 0 rfl ?_
          refine j_iadd hK dX9_firstStep_66 ?_
          refine j_aload_n hK dX9_firstStep_67 1 rfl rfl ?_
          refine j_iload_n hK dX9_firstStep_68 2 rfl rfl ?_
          refine j_iload_n hK dX9_firstStep_69 3 rfl rfl ?_
          obtain ⟨r14, S15, h16, hf⟩ := bd_J hf
          refine k_callVi hK (c_X9_farOf h16) dX9_firstStep_70 zclX9 zo_98 ml_X9_51 mi_X9_farOf mx_X9_farOf in_X9 mc_X9_farOf hy_X9_farOf ⟨by decide, by decide⟩ rfl (Nat.le_of_ble_eq_true rfl) ?_
          refine j_icmp_ne hK 78 dX9_firstStep_73 (by decide) (fun hc => ?_) (fun hc => ?_)
          · replace hf := if_2 hc hf
            refine j_sub [1, 2, 3, 4] rfl ?_
            exact t_X9_firstStep_78 hK hA hk he hf
          · replace hf := if_1 hc hf
            refine j_iload_n hK dX9_firstStep_76 4 rfl rfl ?_
            exact j_iret hK dX9_firstStep_77 rfl (rt_I hA hf))
def f_X9_firstStep (p1 : Int32) (p2 : Int32) (S : St) : Option (Int32 × St) := lp (f_X9_firstStep_2b p1 p2 (fun v17 S18 => some ((-1 : Int32), S18))) FU (0 : Int32) S
theorem c_X9_firstStep {p1 : Int32} {p2 : Int32} {S : St} {r : Int32} {S' : St} (hf : f_X9_firstStep p1 p2 S = some (r, S')) : zM yX9_firstStep cX9_firstStep 5 2 (some .int) [.ref 98, .int p1, .int p2] S (some (.int r)) S' := by
  refine zM_of (zpl (by decide)) (Nat.le_of_ble_eq_true rfl) rfl (fun K hK hA => ?_)
  unfold f_X9_firstStep at hf
  refine j_iconst hK (0 : Int32) dX9_firstStep_0 ic_0 ?_
  refine j_istore_n hK (L' := [(3, .int (0 : Int32)), (0, .ref 98), (1, .int p1), (2, .int p2)]) dX9_firstStep_1 rfl (by decide) rfl ?_
  refine j_sub [1, 2, 3, 0] rfl ?_
  refine t_X9_firstStep_2 hK hA  (fun v17 S18 hf => ?_) _ _ _ hf
  refine j_iconst hK (-1 : Int32) dX9_firstStep_84 ic_m1 ?_
  exact j_iret hK dX9_firstStep_85 rfl (rt_I hA hf)
def f_X9_laterOf (p1 : Int32) (p2 : Int32) (p3 : Int32) (S : St) : Option (Int32 × St) := bd (f_X9_farOf p1 p3 S) (fun r1 S2 => bd (f_X9_farOf p2 p3 S2) (fun r4 S5 => some ((mxI r1 r4), S5)))
theorem c_X9_laterOf {p1 : Int32} {p2 : Int32} {p3 : Int32} {S : St} {r : Int32} {S' : St} (hf : f_X9_laterOf p1 p2 p3 S = some (r, S')) : zM yX9_laterOf cX9_laterOf 4 2 (some .int) [.ref 98, .int p1, .int p2, .int p3] S (some (.int r)) S' := by
  refine zM_of (zpl (by decide)) (Nat.le_of_ble_eq_true rfl) rfl (fun K hK hA => ?_)
  unfold f_X9_laterOf at hf
  refine j_aload_n hK dX9_laterOf_0 0 rfl rfl ?_
  refine j_iload_n hK dX9_laterOf_1 1 rfl rfl ?_
  refine j_iload_n hK dX9_laterOf_2 3 rfl rfl ?_
  obtain ⟨r1, S2, h3, hf⟩ := bd_J hf
  refine k_callVi hK (c_X9_farOf h3) dX9_laterOf_3 zclX9 zo_98 ml_X9_51 mi_X9_farOf mx_X9_farOf in_X9 mc_X9_farOf hy_X9_farOf ⟨by decide, by decide⟩ rfl (Nat.le_of_ble_eq_true rfl) ?_
  refine j_aload_n hK dX9_laterOf_6 0 rfl rfl ?_
  refine j_iload_n hK dX9_laterOf_7 2 rfl rfl ?_
  refine j_iload_n hK dX9_laterOf_8 3 rfl rfl ?_
  obtain ⟨r4, S5, h6, hf⟩ := bd_J hf
  refine k_callVi hK (c_X9_farOf h6) dX9_laterOf_9 zclX9 zo_98 ml_X9_51 mi_X9_farOf mx_X9_farOf in_X9 mc_X9_farOf hy_X9_farOf ⟨by decide, by decide⟩ rfl (Nat.le_of_ble_eq_true rfl) ?_
  refine j_pc (pc' := 12) rfl ?_
  refine j_max hK ml_X9_60 dX9_laterOf_12 (by decide) (Nat.le_of_ble_eq_true rfl) ?_
  exact j_iret hK dX9_laterOf_15 rfl (rt_I hA hf)
def f_X9_reached_77 (x2 : Int32) (x3 : Int32) (x4 : Int32) (x5 : Int32) (x6 : Int32) (k e : Int32 × Int32 → St → Option (Int32 × St)) (S : St) : Option (Int32 × St) := k (x3, (x6 + (1 : Int32))) S
theorem t_X9_reached_77 {K : CT} (hK : KO K cX9_reached RX9 7 2 (some .int)) {r : Int32} {S' : St} (hA : zans K = (some (.int r), S')) {x2 : Int32} {x3 : Int32} {x4 : Int32} {x5 : Int32} {x6 : Int32} {k e : Int32 × Int32 → St → Option (Int32 × St)} (hk : ∀ (v : Int32 × Int32) (S : St), k v S = some (r, S') → J K 29 [(0, .ref 98), (2, .int x2), (3, .int v.1), (4, .int x4), (5, .int x5), (6, .int v.2)] [] S) (he : ∀ (v : Int32 × Int32) (S : St), e v S = some (r, S') → J K 83 [(0, .ref 98), (2, .int x2), (3, .int v.1), (4, .int x4), (5, .int x5)] [] S) {S : St} (hf : f_X9_reached_77 x2 x3 x4 x5 x6 k e S = some (r, S')) : J K 77 [(0, .ref 98), (2, .int x2), (3, .int x3), (4, .int x4), (5, .int x5), (6, .int x6)] [] S := by
  unfold f_X9_reached_77 at hf
  refine j_iinc hK (L' := [(6, .int (x6 + (1 : Int32))), (0, .ref 98), (2, .int x2), (3, .int x3), (4, .int x4), (5, .int x5)]) dX9_reached_77 5 rfl (congrArg (fun y => x6 + y) ic_1) (by decide) rfl ?_
  refine j_goto hK 29 dX9_reached_80 (by decide) ?_
  refine j_sub [1, 2, 3, 4, 5, 0] rfl ?_
  exact hk _ _ hf
def f_X9_reached_29b (x2 : Int32) (x4 : Int32) (x5 : Int32) (e : Int32 × Int32 → St → Option (Int32 × St)) (k : Int32 × Int32 → St → Option (Int32 × St)) (v : Int32 × Int32) (S : St) : Option (Int32 × St) := (if (gI S 3 2) ≤ v.2 then e (v.1, v.2) S else (if ((x2 >>> (v.2 &&& 31)) &&& (1 : Int32)) = (1 : Int32) then bd (f_X0_endsOf v.2 S) (fun r1 S2 => (if (v.1 &&& r1) = 0 then f_X9_reached_77 x2 v.1 x4 x5 v.2 k e S2 else bd (f_X0_endsOf v.2 S2) (fun r4 S5 => lt (v.1 ||| r4) (fun y7 => f_X9_reached_77 x2 y7 x4 x5 v.2 k e S5)))) else f_X9_reached_77 x2 v.1 x4 x5 v.2 k e S))
theorem t_X9_reached_29 {K : CT} (hK : KO K cX9_reached RX9 7 2 (some .int)) {r : Int32} {S' : St} (hA : zans K = (some (.int r), S')) {x2 : Int32} {x4 : Int32} {x5 : Int32} {e : Int32 × Int32 → St → Option (Int32 × St)} (he : ∀ (v : Int32 × Int32) (S : St), e v S = some (r, S') → J K 83 [(0, .ref 98), (2, .int x2), (3, .int v.1), (4, .int x4), (5, .int x5)] [] S) : ∀ (n : Nat) (v : Int32 × Int32) (S : St), lp (f_X9_reached_29b x2 x4 x5 e) n v S = some (r, S') → J K 29 [(0, .ref 98), (2, .int x2), (3, .int v.1), (4, .int x4), (5, .int x5), (6, .int v.2)] [] S :=
  lp_J (P := fun (v : Int32 × Int32) (S : St) => J K 29 [(0, .ref 98), (2, .int x2), (3, .int v.1), (4, .int x4), (5, .int x5), (6, .int v.2)] [] S) (fun k hk v S hf => by
    unfold f_X9_reached_29b at hf
    refine j_iload hK dX9_reached_29 5 rfl ?_
    refine j_aload_n hK dX9_reached_31 0 rfl rfl ?_
    refine j_getR hK fl_X9_9 dX9_reached_32 zo_98 zf_9_0 zr_98_0 ?_
    refine j_getI hK fl_X9_22 dX9_reached_35 zo_3 zf_0_2 ?_
    refine j_icmp_ge hK 83 dX9_reached_38 (by decide) (fun hc => ?_) (fun hc => ?_)
    · replace hf := if_1 hc hf
      refine j_sub [0, 1, 2, 3, 4] rfl ?_
      exact he _ _ hf
    · replace hf := if_2 hc hf
      refine j_iload_n hK dX9_reached_41 1 rfl rfl ?_
      refine j_iload hK dX9_reached_42 5 rfl ?_
      refine j_ishr hK dX9_reached_44 ?_
      refine j_iconst hK (1 : Int32) dX9_reached_45 ic_1 ?_
      refine j_iand hK dX9_reached_46 ?_
      refine j_iconst hK (1 : Int32) dX9_reached_47 ic_1 ?_
      refine j_icmp_ne hK 77 dX9_reached_48 (by decide) (fun hc => ?_) (fun hc => ?_)
      · replace hf := if_2 hc hf
        exact t_X9_reached_77 hK hA hk he hf
      · replace hf := if_1 hc hf
        refine j_iload_n hK dX9_reached_51 2 rfl rfl ?_
        refine j_aload_n hK dX9_reached_52 0 rfl rfl ?_
        refine j_getR hK fl_X9_9 dX9_reached_53 zo_98 zf_9_0 zr_98_0 ?_
        refine j_iload hK dX9_reached_56 5 rfl ?_
        obtain ⟨r1, S2, h3, hf⟩ := bd_J hf
        refine k_callVi hK (c_X0_endsOf h3) dX9_reached_58 zclX0 zo_3 ml_X9_70 mi_X0_endsOf mx_X0_endsOf in_X0 mc_X0_endsOf hy_X0_endsOf ⟨by decide, by decide⟩ rfl (Nat.le_of_ble_eq_true rfl) ?_
        refine j_iand hK dX9_reached_61 ?_
        refine j_if_eq hK 77 dX9_reached_62 (by decide) (fun hc => ?_) (fun hc => ?_)
        · replace hf := if_1 hc hf
          exact t_X9_reached_77 hK hA hk he hf
        · replace hf := if_2 hc hf
          refine j_iload_n hK dX9_reached_65 2 rfl rfl ?_
          refine j_aload_n hK dX9_reached_66 0 rfl rfl ?_
          refine j_getR hK fl_X9_9 dX9_reached_67 zo_98 zf_9_0 zr_98_0 ?_
          refine j_iload hK dX9_reached_70 5 rfl ?_
          obtain ⟨r4, S5, h6, hf⟩ := bd_J hf
          refine k_callVi hK (c_X0_endsOf h6) dX9_reached_72 zclX0 zo_3 ml_X9_70 mi_X0_endsOf mx_X0_endsOf in_X0 mc_X0_endsOf hy_X0_endsOf ⟨by decide, by decide⟩ rfl (Nat.le_of_ble_eq_true rfl) ?_
          refine j_ior hK dX9_reached_75 ?_
          refine lt_I hf (fun y7 hf => ?_)
          refine j_istore_n hK (L' := [(3, .int y7), (0, .ref 98), (2, .int x2), (4, .int x4), (5, .int x5), (6, .int v.2)]) dX9_reached_76 rfl (by decide) rfl ?_
          refine j_sub [1, 2, 0, 3, 4, 5] rfl ?_
          exact t_X9_reached_77 hK hA hk he hf)
def f_X9_reached_10b (x2 : Int32) (e : Int32 × Int32 × Int32 → St → Option (Int32 × St)) (k : Int32 × Int32 × Int32 → St → Option (Int32 × St)) (v : Int32 × Int32 × Int32) (S : St) : Option (Int32 × St) := (if (8 : Int32) ≤ v.2.2 then e (v.1, v.2.1, v.2.2) S else (if v.1 = v.2.1 then e (v.1, v.2.1, v.2.2) S else lp (f_X9_reached_29b x2 v.1 v.2.2 (fun v8 S9 => k (v8.1, v.1, (v.2.2 + (1 : Int32))) S9)) FU (v.1, (0 : Int32)) S))
theorem t_X9_reached_10 {K : CT} (hK : KO K cX9_reached RX9 7 2 (some .int)) {r : Int32} {S' : St} (hA : zans K = (some (.int r), S')) {x2 : Int32} {e : Int32 × Int32 × Int32 → St → Option (Int32 × St)} (he : ∀ (v : Int32 × Int32 × Int32) (S : St), e v S = some (r, S') → J K 89 [(3, .int v.1)] [] S) : ∀ (n : Nat) (v : Int32 × Int32 × Int32) (S : St), lp (f_X9_reached_10b x2 e) n v S = some (r, S') → J K 10 [(0, .ref 98), (2, .int x2), (3, .int v.1), (4, .int v.2.1), (5, .int v.2.2)] [] S :=
  lp_J (P := fun (v : Int32 × Int32 × Int32) (S : St) => J K 10 [(0, .ref 98), (2, .int x2), (3, .int v.1), (4, .int v.2.1), (5, .int v.2.2)] [] S) (fun k hk v S hf => by
    unfold f_X9_reached_10b at hf
    refine j_iload hK dX9_reached_10 4 rfl ?_
    refine j_bipush hK (8 : Int32) dX9_reached_12 bi_8 ?_
    refine j_icmp_ge hK 89 dX9_reached_14 (by decide) (fun hc => ?_) (fun hc => ?_)
    · replace hf := if_1 hc hf
      refine j_sub [2] rfl ?_
      exact he _ _ hf
    · replace hf := if_2 hc hf
      refine j_iload_n hK dX9_reached_17 2 rfl rfl ?_
      refine j_iload hK dX9_reached_18 3 rfl ?_
      refine j_icmp_eq hK 89 dX9_reached_20 (by decide) (fun hc => ?_) (fun hc => ?_)
      · replace hf := if_1 hc hf
        refine j_sub [2] rfl ?_
        exact he _ _ hf
      · replace hf := if_2 hc hf
        refine j_iload_n hK dX9_reached_23 2 rfl rfl ?_
        refine j_istore hK (L' := [(4, .int v.1), (0, .ref 98), (2, .int x2), (3, .int v.1), (5, .int v.2.2)]) dX9_reached_24 (by decide) rfl ?_
        refine j_iconst hK (0 : Int32) dX9_reached_26 ic_0 ?_
        refine j_istore hK (L' := [(6, .int (0 : Int32)), (4, .int v.1), (0, .ref 98), (2, .int x2), (3, .int v.1), (5, .int v.2.2)]) dX9_reached_27 (by decide) rfl ?_
        refine j_sub [2, 3, 4, 1, 5, 0] rfl ?_
        refine t_X9_reached_29 hK hA  (fun v8 S9 hf => ?_) _ _ _ hf
        refine j_iinc hK (L' := [(5, .int (v.2.2 + (1 : Int32))), (0, .ref 98), (2, .int x2), (3, .int v8.1), (4, .int v.1)]) dX9_reached_83 4 rfl (congrArg (fun y => v.2.2 + y) ic_1) (by decide) rfl ?_
        refine j_goto hK 10 dX9_reached_86 (by decide) ?_
        refine j_sub [1, 2, 3, 4, 0] rfl ?_
        exact hk _ _ hf)
def f_X9_reached (p1 : Int32) (p2 : Int32) (S : St) : Option (Int32 × St) := lt ((1 : Int32) <<< (p1 &&& 31)) (fun y10 => lp (f_X9_reached_10b p2 (fun v11 S12 => some (v11.1, S12))) FU (y10, (0 : Int32), (0 : Int32)) S)
theorem c_X9_reached {p1 : Int32} {p2 : Int32} {S : St} {r : Int32} {S' : St} (hf : f_X9_reached p1 p2 S = some (r, S')) : zM yX9_reached cX9_reached 7 2 (some .int) [.ref 98, .int p1, .int p2] S (some (.int r)) S' := by
  refine zM_of (zpl (by decide)) (Nat.le_of_ble_eq_true rfl) rfl (fun K hK hA => ?_)
  unfold f_X9_reached at hf
  refine j_iconst hK (1 : Int32) dX9_reached_0 ic_1 ?_
  refine j_iload_n hK dX9_reached_1 1 rfl rfl ?_
  refine j_ishl hK dX9_reached_2 ?_
  refine lt_I hf (fun y10 hf => ?_)
  refine j_istore_n hK (L' := [(3, .int y10), (0, .ref 98), (1, .int p1), (2, .int p2)]) dX9_reached_3 rfl (by decide) rfl ?_
  refine j_iconst hK (0 : Int32) dX9_reached_4 ic_0 ?_
  refine j_istore hK (L' := [(4, .int (0 : Int32)), (3, .int y10), (0, .ref 98), (1, .int p1), (2, .int p2)]) dX9_reached_5 (by decide) rfl ?_
  refine j_iconst hK (0 : Int32) dX9_reached_7 ic_0 ?_
  refine j_istore hK (L' := [(5, .int (0 : Int32)), (4, .int (0 : Int32)), (3, .int y10), (0, .ref 98), (1, .int p1), (2, .int p2)]) dX9_reached_8 (by decide) rfl ?_
  refine j_sub [3, 5, 2, 1, 0] rfl ?_
  refine t_X9_reached_10 hK hA  (fun v11 S12 hf => ?_) _ _ _ hf
  refine j_iload_n hK dX9_reached_89 0 rfl rfl ?_
  exact j_iret hK dX9_reached_90 rfl (rt_I hA hf)
def f_X9_joinsEnds (p1 : Int32) (p2 : Int32) (S : St) : Option (Int32 × St) := if inb p2 12 then bd (f_X9_reached (gI S 4 p2.toNatClampNeg) p1 S) (fun r2 S3 => if inb p2 12 then (if ((r2 >>> ((gI S3 5 p2.toNatClampNeg) &&& 31)) &&& (1 : Int32)) = (1 : Int32) then some ((1 : Int32), S3) else some ((0 : Int32), S3)) else none) else none
theorem c_X9_joinsEnds {p1 : Int32} {p2 : Int32} {S : St} {r : Int32} {S' : St} (hf : f_X9_joinsEnds p1 p2 S = some (r, S')) : zM yX9_joinsEnds cX9_joinsEnds 3 3 (some .boolean) [.ref 98, .int p1, .int p2] S (some (.int r)) S' := by
  refine zM_of (zpl (by decide)) (Nat.le_of_ble_eq_true rfl) rfl (fun K hK hA => ?_)
  unfold f_X9_joinsEnds at hf
  refine j_aload_n hK dX9_joinsEnds_0 0 rfl rfl ?_
  refine j_aload_n hK dX9_joinsEnds_1 0 rfl rfl ?_
  refine j_getR hK fl_X9_9 dX9_joinsEnds_2 zo_98 zf_9_0 zr_98_0 ?_
  refine j_getR hK fl_X9_32 dX9_joinsEnds_5 zo_3 zf_0_0 zr_3_0 ?_
  refine j_iload_n hK dX9_joinsEnds_8 2 rfl rfl ?_
  obtain ⟨hi1, hf⟩ := gd hf
  refine k_iald hK dX9_joinsEnds_9 zb_4 hi1 rfl ?_
  refine j_iload_n hK dX9_joinsEnds_10 1 rfl rfl ?_
  obtain ⟨r2, S3, h4, hf⟩ := bd_J hf
  refine k_callVi hK (c_X9_reached h4) dX9_joinsEnds_11 zclX9 zo_98 ml_X9_74 mi_X9_reached mx_X9_reached in_X9 mc_X9_reached hy_X9_reached ⟨by decide, by decide⟩ rfl (Nat.le_of_ble_eq_true rfl) ?_
  refine j_pc (pc' := 14) rfl ?_
  refine j_aload_n hK dX9_joinsEnds_14 0 rfl rfl ?_
  refine j_getR hK fl_X9_9 dX9_joinsEnds_15 zo_98 zf_9_0 zr_98_0 ?_
  refine j_getR hK fl_X9_35 dX9_joinsEnds_18 zo_3 zf_0_1 zr_3_1 ?_
  refine j_iload_n hK dX9_joinsEnds_21 2 rfl rfl ?_
  obtain ⟨hi5, hf⟩ := gd hf
  refine k_iald hK dX9_joinsEnds_22 zb_5 hi5 rfl ?_
  refine j_ishr hK dX9_joinsEnds_23 ?_
  refine j_iconst hK (1 : Int32) dX9_joinsEnds_24 ic_1 ?_
  refine j_iand hK dX9_joinsEnds_25 ?_
  refine j_pc (pc' := 26) rfl ?_
  refine j_iconst hK (1 : Int32) dX9_joinsEnds_26 ic_1 ?_
  refine j_icmp_ne hK 34 dX9_joinsEnds_27 (by decide) (fun hc => ?_) (fun hc => ?_)
  · replace hf := if_2 hc hf
    refine j_iconst hK (0 : Int32) dX9_joinsEnds_34 ic_0 ?_
    exact j_zret hK dX9_joinsEnds_35 rfl rfl (rt_I hA hf)
  · replace hf := if_1 hc hf
    refine j_iconst hK (1 : Int32) dX9_joinsEnds_30 ic_1 ?_
    refine j_goto hK 35 dX9_joinsEnds_31 (by decide) ?_
    exact j_zret hK dX9_joinsEnds_35 rfl rfl (rt_I hA hf)
def f_X9_heapsOf_48 (x2 : Int32) (x3 : Int32) (x4 : Int32) (k e : Int32 × Int32 × Int32 → St → Option (Int32 × St)) (S : St) : Option (Int32 × St) := k (x2, x3, (x4 + (1 : Int32))) S
theorem t_X9_heapsOf_48 {K : CT} (hK : KO K cX9_heapsOf RX9 5 3 (some .int)) {r : Int32} {S' : St} (hA : zans K = (some (.int r), S')) {x2 : Int32} {x3 : Int32} {x4 : Int32} {k e : Int32 × Int32 × Int32 → St → Option (Int32 × St)} (hk : ∀ (v : Int32 × Int32 × Int32) (S : St), k v S = some (r, S') → J K 7 [(0, .ref 98), (2, .int v.1), (3, .int v.2.1), (4, .int v.2.2)] [] S) (he : ∀ (v : Int32 × Int32 × Int32) (S : St), e v S = some (r, S') → J K 54 [(3, .int v.2.1)] [] S) {S : St} (hf : f_X9_heapsOf_48 x2 x3 x4 k e S = some (r, S')) : J K 48 [(0, .ref 98), (2, .int x2), (3, .int x3), (4, .int x4)] [] S := by
  unfold f_X9_heapsOf_48 at hf
  refine j_iinc hK (L' := [(4, .int (x4 + (1 : Int32))), (0, .ref 98), (2, .int x2), (3, .int x3)]) dX9_heapsOf_48 3 rfl (congrArg (fun y => x4 + y) ic_1) (by decide) rfl ?_
  refine j_goto hK 7 dX9_heapsOf_51 (by decide) ?_
  refine j_sub [1, 2, 3, 0] rfl ?_
  exact hk _ _ hf
def f_X9_heapsOf_7b (e : Int32 × Int32 × Int32 → St → Option (Int32 × St)) (k : Int32 × Int32 × Int32 → St → Option (Int32 × St)) (v : Int32 × Int32 × Int32) (S : St) : Option (Int32 × St) := (if (8 : Int32) ≤ v.2.2 then e (v.1, v.2.1, v.2.2) S else (if ((v.1 >>> (v.2.2 &&& 31)) &&& (1 : Int32)) = (1 : Int32) then bd (f_X9_reached v.2.2 (gI S 6 3) S) (fun r1 S2 => lt (v.1 &&& (r1 ^^^ (-1 : Int32))) (fun y4 => f_X9_heapsOf_48 y4 (v.2.1 + (1 : Int32)) v.2.2 k e S2)) else f_X9_heapsOf_48 v.1 v.2.1 v.2.2 k e S))
theorem t_X9_heapsOf_7 {K : CT} (hK : KO K cX9_heapsOf RX9 5 3 (some .int)) {r : Int32} {S' : St} (hA : zans K = (some (.int r), S')) {e : Int32 × Int32 × Int32 → St → Option (Int32 × St)} (he : ∀ (v : Int32 × Int32 × Int32) (S : St), e v S = some (r, S') → J K 54 [(3, .int v.2.1)] [] S) : ∀ (n : Nat) (v : Int32 × Int32 × Int32) (S : St), lp (f_X9_heapsOf_7b  e) n v S = some (r, S') → J K 7 [(0, .ref 98), (2, .int v.1), (3, .int v.2.1), (4, .int v.2.2)] [] S :=
  lp_J (P := fun (v : Int32 × Int32 × Int32) (S : St) => J K 7 [(0, .ref 98), (2, .int v.1), (3, .int v.2.1), (4, .int v.2.2)] [] S) (fun k hk v S hf => by
    unfold f_X9_heapsOf_7b at hf
    refine j_iload hK dX9_heapsOf_7 3 rfl ?_
    refine j_bipush hK (8 : Int32) dX9_heapsOf_9 bi_8 ?_
    refine j_icmp_ge hK 54 dX9_heapsOf_11 (by decide) (fun hc => ?_) (fun hc => ?_)
    · replace hf := if_1 hc hf
      refine j_sub [2] rfl ?_
      exact he _ _ hf
    · replace hf := if_2 hc hf
      refine j_iload_n hK dX9_heapsOf_14 1 rfl rfl ?_
      refine j_iload hK dX9_heapsOf_15 3 rfl ?_
      refine j_ishr hK dX9_heapsOf_17 ?_
      refine j_iconst hK (1 : Int32) dX9_heapsOf_18 ic_1 ?_
      refine j_iand hK dX9_heapsOf_19 ?_
      refine j_iconst hK (1 : Int32) dX9_heapsOf_20 ic_1 ?_
      refine j_icmp_ne hK 48 dX9_heapsOf_21 (by decide) (fun hc => ?_) (fun hc => ?_)
      · replace hf := if_2 hc hf
        exact t_X9_heapsOf_48 hK hA hk he hf
      · replace hf := if_1 hc hf
        refine j_iload_n hK dX9_heapsOf_24 1 rfl rfl ?_
        refine j_aload_n hK dX9_heapsOf_25 0 rfl rfl ?_
        refine j_iload hK dX9_heapsOf_26 3 rfl ?_
        refine j_aload_n hK dX9_heapsOf_28 0 rfl rfl ?_
        refine j_getR hK fl_X9_9 dX9_heapsOf_29 zo_98 zf_9_0 zr_98_0 ?_
        refine j_getR hK fl_X9_38 dX9_heapsOf_32 zo_3 zf_0_3 zr_3_3 ?_
        refine j_getI hK fl_X9_77 dX9_heapsOf_35 zo_6 zf_7_3 ?_
        refine j_pc (pc' := 38) rfl ?_
        obtain ⟨r1, S2, h3, hf⟩ := bd_J hf
        refine k_callVi hK (c_X9_reached h3) dX9_heapsOf_38 zclX9 zo_98 ml_X9_74 mi_X9_reached mx_X9_reached in_X9 mc_X9_reached hy_X9_reached ⟨by decide, by decide⟩ rfl (Nat.le_of_ble_eq_true rfl) ?_
        refine j_iconst hK (-1 : Int32) dX9_heapsOf_41 ic_m1 ?_
        refine j_ixor hK dX9_heapsOf_42 ?_
        refine j_iand hK dX9_heapsOf_43 ?_
        refine lt_I hf (fun y4 hf => ?_)
        refine j_istore_n hK (L' := [(2, .int y4), (0, .ref 98), (3, .int v.2.1), (4, .int v.2.2)]) dX9_heapsOf_44 rfl (by decide) rfl ?_
        refine j_iinc hK (L' := [(3, .int (v.2.1 + (1 : Int32))), (2, .int y4), (0, .ref 98), (4, .int v.2.2)]) dX9_heapsOf_45 2 rfl (congrArg (fun y => v.2.1 + y) ic_1) (by decide) rfl ?_
        refine j_sub [2, 1, 0, 3] rfl ?_
        exact t_X9_heapsOf_48 hK hA hk he hf)
def f_X9_heapsOf (p1 : Int32) (S : St) : Option (Int32 × St) := lp (f_X9_heapsOf_7b  (fun v5 S6 => some (v5.2.1, S6))) FU (p1, (0 : Int32), (0 : Int32)) S
theorem c_X9_heapsOf {p1 : Int32} {S : St} {r : Int32} {S' : St} (hf : f_X9_heapsOf p1 S = some (r, S')) : zM yX9_heapsOf cX9_heapsOf 5 3 (some .int) [.ref 98, .int p1] S (some (.int r)) S' := by
  refine zM_of (zpl (by decide)) (Nat.le_of_ble_eq_true rfl) rfl (fun K hK hA => ?_)
  unfold f_X9_heapsOf at hf
  refine j_iload_n hK dX9_heapsOf_0 1 rfl rfl ?_
  refine j_istore_n hK (L' := [(2, .int p1), (0, .ref 98), (1, .int p1)]) dX9_heapsOf_1 rfl (by decide) rfl ?_
  refine j_iconst hK (0 : Int32) dX9_heapsOf_2 ic_0 ?_
  refine j_istore_n hK (L' := [(3, .int (0 : Int32)), (2, .int p1), (0, .ref 98), (1, .int p1)]) dX9_heapsOf_3 rfl (by decide) rfl ?_
  refine j_iconst hK (0 : Int32) dX9_heapsOf_4 ic_0 ?_
  refine j_istore hK (L' := [(4, .int (0 : Int32)), (3, .int (0 : Int32)), (2, .int p1), (0, .ref 98), (1, .int p1)]) dX9_heapsOf_5 (by decide) rfl ?_
  refine j_sub [3, 2, 1, 0] rfl ?_
  refine t_X9_heapsOf_7 hK hA  (fun v5 S6 hf => ?_) _ _ _ hf
  refine j_iload_n hK dX9_heapsOf_54 0 rfl rfl ?_
  exact j_iret hK dX9_heapsOf_55 rfl (rt_I hA hf)
def f_X9_minutesLeft (p1 : Int32) (p2 : Int32) (S : St) : Option (Int32 × St) := if inb ((p1 * (8 : Int32)) + p2) 2048 then some ((gI S 100 ((p1 * (8 : Int32)) + p2).toNatClampNeg), S) else none
theorem c_X9_minutesLeft {p1 : Int32} {p2 : Int32} {S : St} {r : Int32} {S' : St} (hf : f_X9_minutesLeft p1 p2 S = some (r, S')) : zM yX9_minutesLeft cX9_minutesLeft 3 1 (some .int) [.ref 98, .int p1, .int p2] S (some (.int r)) S' := by
  refine zM_of (zpl (by decide)) (Nat.le_of_ble_eq_true rfl) rfl (fun K hK hA => ?_)
  unfold f_X9_minutesLeft at hf
  refine j_aload_n hK dX9_minutesLeft_0 0 rfl rfl ?_
  refine j_getR hK fl_X9_19 dX9_minutesLeft_1 zo_98 zf_9_2 zr_98_2 ?_
  refine j_iload_n hK dX9_minutesLeft_4 1 rfl rfl ?_
  refine j_bipush hK (8 : Int32) dX9_minutesLeft_5 bi_8 ?_
  refine j_imul hK dX9_minutesLeft_7 ?_
  refine j_iload_n hK dX9_minutesLeft_8 2 rfl rfl ?_
  refine j_iadd hK dX9_minutesLeft_9 ?_
  obtain ⟨hi1, hf⟩ := gd hf
  refine k_iald hK dX9_minutesLeft_10 zb_100 hi1 rfl ?_
  refine j_pc (pc' := 11) rfl ?_
  exact j_iret hK dX9_minutesLeft_11 rfl (rt_I hA hf)
def f_X9_minutesBy (p1 : Int32) (p2 : Int32) (p3 : Int32) (S : St) : Option (Int32 × St) := bd (f_X9_farOf p2 p3 S) (fun r1 S2 => bd (f_X9_minutesLeft (p1 &&& (((1 : Int32) <<< (p3 &&& 31)) ^^^ (-1 : Int32))) p3 S2) (fun r4 S5 => some ((r1 + r4), S5)))
theorem c_X9_minutesBy {p1 : Int32} {p2 : Int32} {p3 : Int32} {S : St} {r : Int32} {S' : St} (hf : f_X9_minutesBy p1 p2 p3 S = some (r, S')) : zM yX9_minutesBy cX9_minutesBy 4 2 (some .int) [.ref 98, .int p1, .int p2, .int p3] S (some (.int r)) S' := by
  refine zM_of (zpl (by decide)) (Nat.le_of_ble_eq_true rfl) rfl (fun K hK hA => ?_)
  unfold f_X9_minutesBy at hf
  refine j_aload_n hK dX9_minutesBy_0 0 rfl rfl ?_
  refine j_iload_n hK dX9_minutesBy_1 2 rfl rfl ?_
  refine j_iload_n hK dX9_minutesBy_2 3 rfl rfl ?_
  obtain ⟨r1, S2, h3, hf⟩ := bd_J hf
  refine k_callVi hK (c_X9_farOf h3) dX9_minutesBy_3 zclX9 zo_98 ml_X9_51 mi_X9_farOf mx_X9_farOf in_X9 mc_X9_farOf hy_X9_farOf ⟨by decide, by decide⟩ rfl (Nat.le_of_ble_eq_true rfl) ?_
  refine j_aload_n hK dX9_minutesBy_6 0 rfl rfl ?_
  refine j_iload_n hK dX9_minutesBy_7 1 rfl rfl ?_
  refine j_iconst hK (1 : Int32) dX9_minutesBy_8 ic_1 ?_
  refine j_iload_n hK dX9_minutesBy_9 3 rfl rfl ?_
  refine j_pc (pc' := 10) rfl ?_
  refine j_ishl hK dX9_minutesBy_10 ?_
  refine j_iconst hK (-1 : Int32) dX9_minutesBy_11 ic_m1 ?_
  refine j_ixor hK dX9_minutesBy_12 ?_
  refine j_iand hK dX9_minutesBy_13 ?_
  refine j_iload_n hK dX9_minutesBy_14 3 rfl rfl ?_
  obtain ⟨r4, S5, h6, hf⟩ := bd_J hf
  refine k_callVi hK (c_X9_minutesLeft h6) dX9_minutesBy_15 zclX9 zo_98 ml_X9_87 mi_X9_minutesLeft mx_X9_minutesLeft in_X9 mc_X9_minutesLeft hy_X9_minutesLeft ⟨by decide, by decide⟩ rfl (Nat.le_of_ble_eq_true rfl) ?_
  refine j_iadd hK dX9_minutesBy_18 ?_
  exact j_iret hK dX9_minutesBy_19 rfl (rt_I hA hf)
def f_X9_nextOfTour_60 (x1 : Int32) (x2 : Int32) (x3 : Int32) (x4 : Int32) (k e : Int32 × Int32 → St → Option (Int32 × St)) (S : St) : Option (Int32 × St) := k (x3, (x4 + (1 : Int32))) S
theorem t_X9_nextOfTour_60 {K : CT} (hK : KO K cX9_nextOfTour RX9 6 3 (some .int)) {r : Int32} {S' : St} (hA : zans K = (some (.int r), S')) {x1 : Int32} {x2 : Int32} {x3 : Int32} {x4 : Int32} {k e : Int32 × Int32 → St → Option (Int32 × St)} (hk : ∀ (v : Int32 × Int32) (S : St), k v S = some (r, S') → J K 5 [(0, .ref 98), (1, .int x1), (2, .int x2), (3, .int v.1), (4, .int v.2)] [] S) (he : ∀ (v : Int32 × Int32) (S : St), e v S = some (r, S') → J K 66 [(3, .int v.1)] [] S) {S : St} (hf : f_X9_nextOfTour_60 x1 x2 x3 x4 k e S = some (r, S')) : J K 60 [(0, .ref 98), (1, .int x1), (2, .int x2), (3, .int x3), (4, .int x4)] [] S := by
  unfold f_X9_nextOfTour_60 at hf
  refine j_iinc hK (L' := [(4, .int (x4 + (1 : Int32))), (0, .ref 98), (1, .int x1), (2, .int x2), (3, .int x3)]) dX9_nextOfTour_60 4 rfl (congrArg (fun y => x4 + y) ic_1) (by decide) rfl ?_
  refine j_goto hK 5 dX9_nextOfTour_63 (by decide) ?_
  refine j_sub [1, 2, 3, 4, 0] rfl ?_
  exact hk _ _ hf
def f_X9_nextOfTour_57 (x1 : Int32) (x2 : Int32) (x4 : Int32) (k e : Int32 × Int32 → St → Option (Int32 × St)) (S : St) : Option (Int32 × St) := f_X9_nextOfTour_60 x1 x2 x4 x4 k e S
theorem t_X9_nextOfTour_57 {K : CT} (hK : KO K cX9_nextOfTour RX9 6 3 (some .int)) {r : Int32} {S' : St} (hA : zans K = (some (.int r), S')) {x1 : Int32} {x2 : Int32} {x4 : Int32} {k e : Int32 × Int32 → St → Option (Int32 × St)} (hk : ∀ (v : Int32 × Int32) (S : St), k v S = some (r, S') → J K 5 [(0, .ref 98), (1, .int x1), (2, .int x2), (3, .int v.1), (4, .int v.2)] [] S) (he : ∀ (v : Int32 × Int32) (S : St), e v S = some (r, S') → J K 66 [(3, .int v.1)] [] S) {S : St} (hf : f_X9_nextOfTour_57 x1 x2 x4 k e S = some (r, S')) : J K 57 [(0, .ref 98), (1, .int x1), (2, .int x2), (4, .int x4)] [] S := by
  unfold f_X9_nextOfTour_57 at hf
  refine j_iload hK dX9_nextOfTour_57 3 rfl ?_
  refine j_istore_n hK (L' := [(3, .int x4), (0, .ref 98), (1, .int x1), (2, .int x2), (4, .int x4)]) dX9_nextOfTour_59 rfl (by decide) rfl ?_
  refine j_sub [1, 2, 3, 0, 4] rfl ?_
  exact t_X9_nextOfTour_60 hK hA hk he hf
def f_X9_nextOfTour_27 (x1 : Int32) (x2 : Int32) (x3 : Int32) (x4 : Int32) (s0 : Int32) (k e : Int32 × Int32 → St → Option (Int32 × St)) (S : St) : Option (Int32 × St) := (if s0 = 0 then f_X9_nextOfTour_60 x1 x2 x3 x4 k e S else (if x3 = (-1 : Int32) then f_X9_nextOfTour_57 x1 x2 x4 k e S else bd (f_X9_minutesBy x1 x2 x4 S) (fun r1 S2 => bd (f_X9_minutesBy x1 x2 x3 S2) (fun r4 S5 => (if r4 ≤ r1 then f_X9_nextOfTour_60 x1 x2 x3 x4 k e S5 else f_X9_nextOfTour_57 x1 x2 x4 k e S5)))))
theorem t_X9_nextOfTour_27 {K : CT} (hK : KO K cX9_nextOfTour RX9 6 3 (some .int)) {r : Int32} {S' : St} (hA : zans K = (some (.int r), S')) {x1 : Int32} {x2 : Int32} {x3 : Int32} {x4 : Int32} {s0 : Int32} {k e : Int32 × Int32 → St → Option (Int32 × St)} (hk : ∀ (v : Int32 × Int32) (S : St), k v S = some (r, S') → J K 5 [(0, .ref 98), (1, .int x1), (2, .int x2), (3, .int v.1), (4, .int v.2)] [] S) (he : ∀ (v : Int32 × Int32) (S : St), e v S = some (r, S') → J K 66 [(3, .int v.1)] [] S) {S : St} (hf : f_X9_nextOfTour_27 x1 x2 x3 x4 s0 k e S = some (r, S')) : J K 27 [(0, .ref 98), (1, .int x1), (2, .int x2), (3, .int x3), (4, .int x4)] [.int s0] S := by
  unfold f_X9_nextOfTour_27 at hf
  refine j_istore hK (L' := [(5, .int s0), (0, .ref 98), (1, .int x1), (2, .int x2), (3, .int x3), (4, .int x4)]) dX9_nextOfTour_27 (by decide) rfl ?_
  refine j_iload hK dX9_nextOfTour_29 0 rfl ?_
  refine j_if_eq hK 60 dX9_nextOfTour_31 (by decide) (fun hc => ?_) (fun hc => ?_)
  · replace hf := if_1 hc hf
    refine j_sub [1, 2, 3, 4, 5] rfl ?_
    exact t_X9_nextOfTour_60 hK hA hk he hf
  · replace hf := if_2 hc hf
    refine j_iload_n hK dX9_nextOfTour_34 4 rfl rfl ?_
    refine j_iconst hK (-1 : Int32) dX9_nextOfTour_35 ic_m1 ?_
    refine j_icmp_eq hK 57 dX9_nextOfTour_36 (by decide) (fun hc => ?_) (fun hc => ?_)
    · replace hf := if_1 hc hf
      refine j_sub [1, 2, 3, 5] rfl ?_
      exact t_X9_nextOfTour_57 hK hA hk he hf
    · replace hf := if_2 hc hf
      refine j_aload_n hK dX9_nextOfTour_39 1 rfl rfl ?_
      refine j_iload_n hK dX9_nextOfTour_40 2 rfl rfl ?_
      refine j_iload_n hK dX9_nextOfTour_41 3 rfl rfl ?_
      refine j_iload hK dX9_nextOfTour_42 5 rfl ?_
      obtain ⟨r1, S2, h3, hf⟩ := bd_J hf
      refine k_callVi hK (c_X9_minutesBy h3) dX9_nextOfTour_44 zclX9 zo_98 ml_X9_83 mi_X9_minutesBy mx_X9_minutesBy in_X9 mc_X9_minutesBy hy_X9_minutesBy ⟨by decide, by decide⟩ rfl (Nat.le_of_ble_eq_true rfl) ?_
      refine j_aload_n hK dX9_nextOfTour_47 1 rfl rfl ?_
      refine j_iload_n hK dX9_nextOfTour_48 2 rfl rfl ?_
      refine j_pc (pc' := 49) rfl ?_
      refine j_iload_n hK dX9_nextOfTour_49 3 rfl rfl ?_
      refine j_iload_n hK dX9_nextOfTour_50 4 rfl rfl ?_
      obtain ⟨r4, S5, h6, hf⟩ := bd_J hf
      refine k_callVi hK (c_X9_minutesBy h6) dX9_nextOfTour_51 zclX9 zo_98 ml_X9_83 mi_X9_minutesBy mx_X9_minutesBy in_X9 mc_X9_minutesBy hy_X9_minutesBy ⟨by decide, by decide⟩ rfl (Nat.le_of_ble_eq_true rfl) ?_
      refine j_icmp_ge hK 60 dX9_nextOfTour_54 (by decide) (fun hc => ?_) (fun hc => ?_)
      · replace hf := if_1 hc hf
        refine j_sub [1, 2, 3, 4, 5] rfl ?_
        exact t_X9_nextOfTour_60 hK hA hk he hf
      · replace hf := if_2 hc hf
        refine j_sub [1, 2, 3, 5] rfl ?_
        exact t_X9_nextOfTour_57 hK hA hk he hf
def f_X9_nextOfTour_5b (x1 : Int32) (x2 : Int32) (e : Int32 × Int32 → St → Option (Int32 × St)) (k : Int32 × Int32 → St → Option (Int32 × St)) (v : Int32 × Int32) (S : St) : Option (Int32 × St) := (if (8 : Int32) ≤ v.2 then e (v.1, v.2) S else (if ((x1 >>> (v.2 &&& 31)) &&& (1 : Int32)) = (1 : Int32) then f_X9_nextOfTour_27 x1 x2 v.1 v.2 (1 : Int32) k e S else f_X9_nextOfTour_27 x1 x2 v.1 v.2 (0 : Int32) k e S))
theorem t_X9_nextOfTour_5 {K : CT} (hK : KO K cX9_nextOfTour RX9 6 3 (some .int)) {r : Int32} {S' : St} (hA : zans K = (some (.int r), S')) {x1 : Int32} {x2 : Int32} {e : Int32 × Int32 → St → Option (Int32 × St)} (he : ∀ (v : Int32 × Int32) (S : St), e v S = some (r, S') → J K 66 [(3, .int v.1)] [] S) : ∀ (n : Nat) (v : Int32 × Int32) (S : St), lp (f_X9_nextOfTour_5b x1 x2 e) n v S = some (r, S') → J K 5 [(0, .ref 98), (1, .int x1), (2, .int x2), (3, .int v.1), (4, .int v.2)] [] S :=
  lp_J (P := fun (v : Int32 × Int32) (S : St) => J K 5 [(0, .ref 98), (1, .int x1), (2, .int x2), (3, .int v.1), (4, .int v.2)] [] S) (fun k hk v S hf => by
    unfold f_X9_nextOfTour_5b at hf
    refine j_iload hK dX9_nextOfTour_5 4 rfl ?_
    refine j_bipush hK (8 : Int32) dX9_nextOfTour_7 bi_8 ?_
    refine j_icmp_ge hK 66 dX9_nextOfTour_9 (by decide) (fun hc => ?_) (fun hc => ?_)
    · replace hf := if_1 hc hf
      refine j_sub [3] rfl ?_
      exact he _ _ hf
    · replace hf := if_2 hc hf
      refine j_iload_n hK dX9_nextOfTour_12 1 rfl rfl ?_
      refine j_iload hK dX9_nextOfTour_13 4 rfl ?_
      refine j_ishr hK dX9_nextOfTour_15 ?_
      refine j_iconst hK (1 : Int32) dX9_nextOfTour_16 ic_1 ?_
      refine j_iand hK dX9_nextOfTour_17 ?_
      refine j_iconst hK (1 : Int32) dX9_nextOfTour_18 ic_1 ?_
      refine j_icmp_ne hK 26 dX9_nextOfTour_19 (by decide) (fun hc => ?_) (fun hc => ?_)
      · replace hf := if_2 hc hf
        refine j_iconst hK (0 : Int32) dX9_nextOfTour_26 ic_0 ?_
        exact t_X9_nextOfTour_27 hK hA hk he hf
      · replace hf := if_1 hc hf
        refine j_iconst hK (1 : Int32) dX9_nextOfTour_22 ic_1 ?_
        refine j_goto hK 27 dX9_nextOfTour_23 (by decide) ?_
        exact t_X9_nextOfTour_27 hK hA hk he hf)
def f_X9_nextOfTour (p1 : Int32) (p2 : Int32) (S : St) : Option (Int32 × St) := lp (f_X9_nextOfTour_5b p1 p2 (fun v7 S8 => some (v7.1, S8))) FU ((-1 : Int32), (0 : Int32)) S
theorem c_X9_nextOfTour {p1 : Int32} {p2 : Int32} {S : St} {r : Int32} {S' : St} (hf : f_X9_nextOfTour p1 p2 S = some (r, S')) : zM yX9_nextOfTour cX9_nextOfTour 6 3 (some .int) [.ref 98, .int p1, .int p2] S (some (.int r)) S' := by
  refine zM_of (zpl (by decide)) (Nat.le_of_ble_eq_true rfl) rfl (fun K hK hA => ?_)
  unfold f_X9_nextOfTour at hf
  refine j_iconst hK (-1 : Int32) dX9_nextOfTour_0 ic_m1 ?_
  refine j_istore_n hK (L' := [(3, .int (-1 : Int32)), (0, .ref 98), (1, .int p1), (2, .int p2)]) dX9_nextOfTour_1 rfl (by decide) rfl ?_
  refine j_iconst hK (0 : Int32) dX9_nextOfTour_2 ic_0 ?_
  refine j_istore hK (L' := [(4, .int (0 : Int32)), (3, .int (-1 : Int32)), (0, .ref 98), (1, .int p1), (2, .int p2)]) dX9_nextOfTour_3 (by decide) rfl ?_
  refine j_sub [2, 3, 4, 1, 0] rfl ?_
  refine t_X9_nextOfTour_5 hK hA  (fun v7 S8 hf => ?_) _ _ _ hf
  refine j_iload_n hK dX9_nextOfTour_66 0 rfl rfl ?_
  exact j_iret hK dX9_nextOfTour_67 rfl (rt_I hA hf)
def f_X9_planTours_77 (x1 : Int32) (x2 : Int32) (x3 : Int32) (k e : Int32 → St → Option (Unit × St)) (S : St) : Option (Unit × St) := k (x3 + (1 : Int32)) S
theorem t_X9_planTours_77 {K : CT} (hK : KO K cX9_planTours RX9 6 4 none) {r : Unit} {S' : St} (hA : zans K = (none, S')) {x1 : Int32} {x2 : Int32} {x3 : Int32} {k e : Int32 → St → Option (Unit × St)} (hk : ∀ (v : Int32) (S : St), k v S = some (r, S') → J K 2 [(0, .ref 98), (1, .int x1), (2, .int x2), (3, .int v)] [] S) (he : ∀ (v : Int32) (S : St), e v S = some (r, S') → J K 83 [] [] S) {S : St} (hf : f_X9_planTours_77 x1 x2 x3 k e S = some (r, S')) : J K 77 [(0, .ref 98), (1, .int x1), (2, .int x2), (3, .int x3)] [] S := by
  unfold f_X9_planTours_77 at hf
  refine j_iinc hK (L' := [(3, .int (x3 + (1 : Int32))), (0, .ref 98), (1, .int x1), (2, .int x2)]) dX9_planTours_77 3 rfl (congrArg (fun y => x3 + y) ic_1) (by decide) rfl ?_
  refine j_goto hK 2 dX9_planTours_80 (by decide) ?_
  refine j_sub [1, 2, 3, 0] rfl ?_
  exact hk _ _ hf
def f_X9_planTours_70 (x1 : Int32) (x2 : Int32) (x3 : Int32) (x4 : Int32) (s1 : Int32) (s2 : Int32) (k e : Int32 → St → Option (Unit × St)) (S : St) : Option (Unit × St) := if inb s1 2048 then lt (sI S 100 s1.toNatClampNeg s2) (fun S2 => k (x4 + (1 : Int32)) S2) else none
theorem t_X9_planTours_70 {K : CT} (hK : KO K cX9_planTours RX9 6 4 none) {r : Unit} {S' : St} (hA : zans K = (none, S')) {x1 : Int32} {x2 : Int32} {x3 : Int32} {x4 : Int32} {s1 : Int32} {s2 : Int32} {k e : Int32 → St → Option (Unit × St)} (hk : ∀ (v : Int32) (S : St), k v S = some (r, S') → J K 18 [(0, .ref 98), (1, .int x1), (2, .int x2), (3, .int x3), (4, .int v)] [] S) (he : ∀ (v : Int32) (S : St), e v S = some (r, S') → J K 77 [(0, .ref 98), (1, .int x1), (2, .int x2), (3, .int x3)] [] S) {S : St} (hf : f_X9_planTours_70 x1 x2 x3 x4 s1 s2 k e S = some (r, S')) : J K 70 [(0, .ref 98), (1, .int x1), (2, .int x2), (3, .int x3), (4, .int x4)] [.int s2, .int s1, .ref 100] S := by
  unfold f_X9_planTours_70 at hf
  obtain ⟨hi1, hf⟩ := gd hf
  refine k_iast hK dX9_planTours_70 zb_100 hi1 rfl ?_
  refine lt_S hf (fun S2 hf => ?_)
  refine j_iinc hK (L' := [(4, .int (x4 + (1 : Int32))), (0, .ref 98), (1, .int x1), (2, .int x2), (3, .int x3)]) dX9_planTours_71 4 rfl (congrArg (fun y => x4 + y) ic_1) (by decide) rfl ?_
  refine j_goto hK 18 dX9_planTours_74 (by decide) ?_
  refine j_sub [1, 2, 3, 4, 0] rfl ?_
  exact hk _ _ hf
def f_X9_planTours_18b (x1 : Int32) (x2 : Int32) (x3 : Int32) (e : Int32 → St → Option (Unit × St)) (k : Int32 → St → Option (Unit × St)) (v : Int32) (S : St) : Option (Unit × St) := (if (8 : Int32) ≤ v then e v S else bd (f_X9_nextOfTour x3 v S) (fun r3 S4 => (if r3 = (-1 : Int32) then bd (f_X9_farOf v x1 S4) (fun r9 S10 => f_X9_planTours_70 x1 x2 x3 v ((x3 * (8 : Int32)) + v) r9 k e S10) else bd (f_X9_minutesBy x3 v r3 S4) (fun r6 S7 => f_X9_planTours_70 x1 x2 x3 v ((x3 * (8 : Int32)) + v) r6 k e S7))))
theorem t_X9_planTours_18 {K : CT} (hK : KO K cX9_planTours RX9 6 4 none) {r : Unit} {S' : St} (hA : zans K = (none, S')) {x1 : Int32} {x2 : Int32} {x3 : Int32} {e : Int32 → St → Option (Unit × St)} (he : ∀ (v : Int32) (S : St), e v S = some (r, S') → J K 77 [(0, .ref 98), (1, .int x1), (2, .int x2), (3, .int x3)] [] S) : ∀ (n : Nat) (v : Int32) (S : St), lp (f_X9_planTours_18b x1 x2 x3 e) n v S = some (r, S') → J K 18 [(0, .ref 98), (1, .int x1), (2, .int x2), (3, .int x3), (4, .int v)] [] S :=
  lp_J (P := fun (v : Int32) (S : St) => J K 18 [(0, .ref 98), (1, .int x1), (2, .int x2), (3, .int x3), (4, .int v)] [] S) (fun k hk v S hf => by
    unfold f_X9_planTours_18b at hf
    refine j_iload hK dX9_planTours_18 4 rfl ?_
    refine j_bipush hK (8 : Int32) dX9_planTours_20 bi_8 ?_
    refine j_icmp_ge hK 77 dX9_planTours_22 (by decide) (fun hc => ?_) (fun hc => ?_)
    · replace hf := if_1 hc hf
      refine j_sub [0, 1, 2, 3] rfl ?_
      exact he _ _ hf
    · replace hf := if_2 hc hf
      refine j_aload_n hK dX9_planTours_25 0 rfl rfl ?_
      refine j_iload_n hK dX9_planTours_26 3 rfl rfl ?_
      refine j_iload hK dX9_planTours_27 4 rfl ?_
      obtain ⟨r3, S4, h5, hf⟩ := bd_J hf
      refine k_callVi hK (c_X9_nextOfTour h5) dX9_planTours_29 zclX9 zo_98 ml_X9_80 mi_X9_nextOfTour mx_X9_nextOfTour in_X9 mc_X9_nextOfTour hy_X9_nextOfTour ⟨by decide, by decide⟩ rfl (Nat.le_of_ble_eq_true rfl) ?_
      refine j_istore hK (L' := [(5, .int r3), (0, .ref 98), (1, .int x1), (2, .int x2), (3, .int x3), (4, .int v)]) dX9_planTours_32 (by decide) rfl ?_
      refine j_aload_n hK dX9_planTours_34 1 rfl rfl ?_
      refine j_getR hK fl_X9_19 dX9_planTours_35 zo_98 zf_9_2 zr_98_2 ?_
      refine j_pc (pc' := 38) rfl ?_
      refine j_iload_n hK dX9_planTours_38 4 rfl rfl ?_
      refine j_bipush hK (8 : Int32) dX9_planTours_39 bi_8 ?_
      refine j_imul hK dX9_planTours_41 ?_
      refine j_iload hK dX9_planTours_42 5 rfl ?_
      refine j_iadd hK dX9_planTours_44 ?_
      refine j_iload hK dX9_planTours_45 0 rfl ?_
      refine j_iconst hK (-1 : Int32) dX9_planTours_47 ic_m1 ?_
      refine j_icmp_ne hK 61 dX9_planTours_48 (by decide) (fun hc => ?_) (fun hc => ?_)
      · replace hf := if_2 hc hf
        refine j_aload_n hK dX9_planTours_61 1 rfl rfl ?_
        refine j_iload_n hK dX9_planTours_62 4 rfl rfl ?_
        refine j_iload hK dX9_planTours_63 5 rfl ?_
        refine j_iload hK dX9_planTours_65 0 rfl ?_
        obtain ⟨r6, S7, h8, hf⟩ := bd_J hf
        refine k_callVi hK (c_X9_minutesBy h8) dX9_planTours_67 zclX9 zo_98 ml_X9_83 mi_X9_minutesBy mx_X9_minutesBy in_X9 mc_X9_minutesBy hy_X9_minutesBy ⟨by decide, by decide⟩ rfl (Nat.le_of_ble_eq_true rfl) ?_
        refine j_sub [1, 2, 3, 4, 5] rfl ?_
        exact t_X9_planTours_70 hK hA hk he hf
      · replace hf := if_1 hc hf
        refine j_aload_n hK dX9_planTours_51 1 rfl rfl ?_
        refine j_iload hK dX9_planTours_52 5 rfl ?_
        refine j_iload_n hK dX9_planTours_54 2 rfl rfl ?_
        obtain ⟨r9, S10, h11, hf⟩ := bd_J hf
        refine k_callVi hK (c_X9_farOf h11) dX9_planTours_55 zclX9 zo_98 ml_X9_51 mi_X9_farOf mx_X9_farOf in_X9 mc_X9_farOf hy_X9_farOf ⟨by decide, by decide⟩ rfl (Nat.le_of_ble_eq_true rfl) ?_
        refine j_goto hK 70 dX9_planTours_58 (by decide) ?_
        refine j_sub [1, 2, 3, 4, 5] rfl ?_
        exact t_X9_planTours_70 hK hA hk he hf)
def f_X9_planTours_2b (x1 : Int32) (x2 : Int32) (e : Int32 → St → Option (Unit × St)) (k : Int32 → St → Option (Unit × St)) (v : Int32) (S : St) : Option (Unit × St) := (if x2 < v then e v S else (if (v &&& (x2 ^^^ (-1 : Int32))) = 0 then lp (f_X9_planTours_18b x1 x2 v (fun v12 S13 => f_X9_planTours_77 x1 x2 v k e S13)) FU (0 : Int32) S else f_X9_planTours_77 x1 x2 v k e S))
theorem t_X9_planTours_2 {K : CT} (hK : KO K cX9_planTours RX9 6 4 none) {r : Unit} {S' : St} (hA : zans K = (none, S')) {x1 : Int32} {x2 : Int32} {e : Int32 → St → Option (Unit × St)} (he : ∀ (v : Int32) (S : St), e v S = some (r, S') → J K 83 [] [] S) : ∀ (n : Nat) (v : Int32) (S : St), lp (f_X9_planTours_2b x1 x2 e) n v S = some (r, S') → J K 2 [(0, .ref 98), (1, .int x1), (2, .int x2), (3, .int v)] [] S :=
  lp_J (P := fun (v : Int32) (S : St) => J K 2 [(0, .ref 98), (1, .int x1), (2, .int x2), (3, .int v)] [] S) (fun k hk v S hf => by
    unfold f_X9_planTours_2b at hf
    refine j_iload_n hK dX9_planTours_2 3 rfl rfl ?_
    refine j_iload_n hK dX9_planTours_3 2 rfl rfl ?_
    refine j_icmp_gt hK 83 dX9_planTours_4 (by decide) (fun hc => ?_) (fun hc => ?_)
    · replace hf := if_1 hc hf
      refine j_sub [] rfl ?_
      exact he _ _ hf
    · replace hf := if_2 hc hf
      refine j_iload_n hK dX9_planTours_7 3 rfl rfl ?_
      refine j_iload_n hK dX9_planTours_8 2 rfl rfl ?_
      refine j_iconst hK (-1 : Int32) dX9_planTours_9 ic_m1 ?_
      refine j_ixor hK dX9_planTours_10 ?_
      refine j_iand hK dX9_planTours_11 ?_
      refine j_if_ne hK 77 dX9_planTours_12 (by decide) (fun hc => ?_) (fun hc => ?_)
      · replace hf := if_2 hc hf
        exact t_X9_planTours_77 hK hA hk he hf
      · replace hf := if_1 hc hf
        refine j_iconst hK (0 : Int32) dX9_planTours_15 ic_0 ?_
        refine j_istore hK (L' := [(4, .int (0 : Int32)), (0, .ref 98), (1, .int x1), (2, .int x2), (3, .int v)]) dX9_planTours_16 (by decide) rfl ?_
        refine j_sub [1, 2, 3, 4, 0] rfl ?_
        refine t_X9_planTours_18 hK hA  (fun v12 S13 hf => ?_) _ _ _ hf
        exact t_X9_planTours_77 hK hA hk he hf)
def f_X9_planTours (p1 : Int32) (p2 : Int32) (S : St) : Option (Unit × St) := lp (f_X9_planTours_2b p1 p2 (fun v14 S15 => some ((), S15))) FU (0 : Int32) S
theorem c_X9_planTours {p1 : Int32} {p2 : Int32} {S : St} {r : Unit} {S' : St} (hf : f_X9_planTours p1 p2 S = some (r, S')) : zM yX9_planTours cX9_planTours 6 4 none [.ref 98, .int p1, .int p2] S (none) S' := by
  refine zM_of (zpl (by decide)) (Nat.le_of_ble_eq_true rfl) rfl (fun K hK hA => ?_)
  unfold f_X9_planTours at hf
  refine j_iconst hK (0 : Int32) dX9_planTours_0 ic_0 ?_
  refine j_istore_n hK (L' := [(3, .int (0 : Int32)), (0, .ref 98), (1, .int p1), (2, .int p2)]) dX9_planTours_1 rfl (by decide) rfl ?_
  refine j_sub [1, 2, 3, 0] rfl ?_
  refine t_X9_planTours_2 hK hA  (fun v14 S15 hf => ?_) _ _ _ hf
  exact j_vret hK dX9_planTours_83 rfl (rt_V hA hf)
def f_X9_acrossOf_78 (x1 : Int32) (x2 : Int32) (x3 : Int32) (k e : Int32 × Int32 → St → Option (Int32 × St)) (S : St) : Option (Int32 × St) := k (x2, (x3 + (1 : Int32))) S
theorem t_X9_acrossOf_78 {K : CT} (hK : KO K cX9_acrossOf RX9 4 2 (some .int)) {r : Int32} {S' : St} (hA : zans K = (some (.int r), S')) {x1 : Int32} {x2 : Int32} {x3 : Int32} {k e : Int32 × Int32 → St → Option (Int32 × St)} (hk : ∀ (v : Int32 × Int32) (S : St), k v S = some (r, S') → J K 4 [(0, .ref 98), (1, .int x1), (2, .int v.1), (3, .int v.2)] [] S) (he : ∀ (v : Int32 × Int32) (S : St), e v S = some (r, S') → J K 84 [(2, .int v.1)] [] S) {S : St} (hf : f_X9_acrossOf_78 x1 x2 x3 k e S = some (r, S')) : J K 78 [(0, .ref 98), (1, .int x1), (2, .int x2), (3, .int x3)] [] S := by
  unfold f_X9_acrossOf_78 at hf
  refine j_iinc hK (L' := [(3, .int (x3 + (1 : Int32))), (0, .ref 98), (1, .int x1), (2, .int x2)]) dX9_acrossOf_78 3 rfl (congrArg (fun y => x3 + y) ic_1) (by decide) rfl ?_
  refine j_goto hK 4 dX9_acrossOf_81 (by decide) ?_
  refine j_sub [1, 2, 3, 0] rfl ?_
  exact hk _ _ hf
def f_X9_acrossOf_4b (x1 : Int32) (e : Int32 × Int32 → St → Option (Int32 × St)) (k : Int32 × Int32 → St → Option (Int32 × St)) (v : Int32 × Int32) (S : St) : Option (Int32 × St) := (if (gI S 3 2) ≤ v.2 then e (v.1, v.2) S else bd (f_X0_isOpen v.2 S) (fun r1 S2 => (if r1 = 0 then f_X9_acrossOf_78 x1 v.1 v.2 k e S2 else if inb v.2 12 then if inb v.2 12 then lt (((x1 >>> ((gI S2 4 v.2.toNatClampNeg) &&& 31)) &&& (1 : Int32)) <<< ((gI S2 5 v.2.toNatClampNeg) &&& 31)) (fun y6 => lt (v.1 ||| y6) (fun y7 => if inb v.2 12 then if inb v.2 12 then lt (((x1 >>> ((gI S2 5 v.2.toNatClampNeg) &&& 31)) &&& (1 : Int32)) <<< ((gI S2 4 v.2.toNatClampNeg) &&& 31)) (fun y10 => lt (y7 ||| y10) (fun y11 => f_X9_acrossOf_78 x1 y11 v.2 k e S2)) else none else none)) else none else none)))
theorem t_X9_acrossOf_4 {K : CT} (hK : KO K cX9_acrossOf RX9 4 2 (some .int)) {r : Int32} {S' : St} (hA : zans K = (some (.int r), S')) {x1 : Int32} {e : Int32 × Int32 → St → Option (Int32 × St)} (he : ∀ (v : Int32 × Int32) (S : St), e v S = some (r, S') → J K 84 [(2, .int v.1)] [] S) : ∀ (n : Nat) (v : Int32 × Int32) (S : St), lp (f_X9_acrossOf_4b x1 e) n v S = some (r, S') → J K 4 [(0, .ref 98), (1, .int x1), (2, .int v.1), (3, .int v.2)] [] S :=
  lp_J (P := fun (v : Int32 × Int32) (S : St) => J K 4 [(0, .ref 98), (1, .int x1), (2, .int v.1), (3, .int v.2)] [] S) (fun k hk v S hf => by
    unfold f_X9_acrossOf_4b at hf
    refine j_iload_n hK dX9_acrossOf_4 3 rfl rfl ?_
    refine j_aload_n hK dX9_acrossOf_5 0 rfl rfl ?_
    refine j_getR hK fl_X9_9 dX9_acrossOf_6 zo_98 zf_9_0 zr_98_0 ?_
    refine j_getI hK fl_X9_22 dX9_acrossOf_9 zo_3 zf_0_2 ?_
    refine j_icmp_ge hK 84 dX9_acrossOf_12 (by decide) (fun hc => ?_) (fun hc => ?_)
    · replace hf := if_1 hc hf
      refine j_sub [2] rfl ?_
      exact he _ _ hf
    · replace hf := if_2 hc hf
      refine j_aload_n hK dX9_acrossOf_15 0 rfl rfl ?_
      refine j_getR hK fl_X9_9 dX9_acrossOf_16 zo_98 zf_9_0 zr_98_0 ?_
      refine j_iload_n hK dX9_acrossOf_19 3 rfl rfl ?_
      obtain ⟨r1, S2, h3, hf⟩ := bd_J hf
      refine k_callVi hK (c_X0_isOpen h3) dX9_acrossOf_20 zclX0 zo_3 ml_X9_28 mi_X0_isOpen mx_X0_isOpen in_X0 mc_X0_isOpen hy_X0_isOpen ⟨by decide, by decide⟩ rfl (Nat.le_of_ble_eq_true rfl) ?_
      refine j_if_eq hK 78 dX9_acrossOf_23 (by decide) (fun hc => ?_) (fun hc => ?_)
      · replace hf := if_1 hc hf
        exact t_X9_acrossOf_78 hK hA hk he hf
      · replace hf := if_2 hc hf
        refine j_iload_n hK dX9_acrossOf_26 2 rfl rfl ?_
        refine j_iload_n hK dX9_acrossOf_27 1 rfl rfl ?_
        refine j_aload_n hK dX9_acrossOf_28 0 rfl rfl ?_
        refine j_getR hK fl_X9_9 dX9_acrossOf_29 zo_98 zf_9_0 zr_98_0 ?_
        refine j_getR hK fl_X9_32 dX9_acrossOf_32 zo_3 zf_0_0 zr_3_0 ?_
        refine j_iload_n hK dX9_acrossOf_35 3 rfl rfl ?_
        obtain ⟨hi4, hf⟩ := gd hf
        refine k_iald hK dX9_acrossOf_36 zb_4 hi4 rfl ?_
        refine j_pc (pc' := 37) rfl ?_
        refine j_ishr hK dX9_acrossOf_37 ?_
        refine j_iconst hK (1 : Int32) dX9_acrossOf_38 ic_1 ?_
        refine j_iand hK dX9_acrossOf_39 ?_
        refine j_aload_n hK dX9_acrossOf_40 0 rfl rfl ?_
        refine j_getR hK fl_X9_9 dX9_acrossOf_41 zo_98 zf_9_0 zr_98_0 ?_
        refine j_getR hK fl_X9_35 dX9_acrossOf_44 zo_3 zf_0_1 zr_3_1 ?_
        refine j_iload_n hK dX9_acrossOf_47 3 rfl rfl ?_
        obtain ⟨hi5, hf⟩ := gd hf
        refine k_iald hK dX9_acrossOf_48 zb_5 hi5 rfl ?_
        refine j_pc (pc' := 49) rfl ?_
        refine j_ishl hK dX9_acrossOf_49 ?_
        refine lt_I hf (fun y6 hf => ?_)
        refine j_ior hK dX9_acrossOf_50 ?_
        refine lt_I hf (fun y7 hf => ?_)
        refine j_istore_n hK (L' := [(2, .int y7), (0, .ref 98), (1, .int x1), (3, .int v.2)]) dX9_acrossOf_51 rfl (by decide) rfl ?_
        refine j_iload_n hK dX9_acrossOf_52 0 rfl rfl ?_
        refine j_iload_n hK dX9_acrossOf_53 2 rfl rfl ?_
        refine j_aload_n hK dX9_acrossOf_54 1 rfl rfl ?_
        refine j_getR hK fl_X9_9 dX9_acrossOf_55 zo_98 zf_9_0 zr_98_0 ?_
        refine j_getR hK fl_X9_35 dX9_acrossOf_58 zo_3 zf_0_1 zr_3_1 ?_
        refine j_pc (pc' := 61) rfl ?_
        refine j_iload_n hK dX9_acrossOf_61 3 rfl rfl ?_
        obtain ⟨hi8, hf⟩ := gd hf
        refine k_iald hK dX9_acrossOf_62 zb_5 hi8 rfl ?_
        refine j_ishr hK dX9_acrossOf_63 ?_
        refine j_iconst hK (1 : Int32) dX9_acrossOf_64 ic_1 ?_
        refine j_iand hK dX9_acrossOf_65 ?_
        refine j_aload_n hK dX9_acrossOf_66 1 rfl rfl ?_
        refine j_getR hK fl_X9_9 dX9_acrossOf_67 zo_98 zf_9_0 zr_98_0 ?_
        refine j_getR hK fl_X9_32 dX9_acrossOf_70 zo_3 zf_0_0 zr_3_0 ?_
        refine j_pc (pc' := 73) rfl ?_
        refine j_iload_n hK dX9_acrossOf_73 3 rfl rfl ?_
        obtain ⟨hi9, hf⟩ := gd hf
        refine k_iald hK dX9_acrossOf_74 zb_4 hi9 rfl ?_
        refine j_ishl hK dX9_acrossOf_75 ?_
        refine lt_I hf (fun y10 hf => ?_)
        refine j_ior hK dX9_acrossOf_76 ?_
        refine lt_I hf (fun y11 hf => ?_)
        refine j_istore_n hK (L' := [(2, .int y11), (0, .ref 98), (1, .int x1), (3, .int v.2)]) dX9_acrossOf_77 rfl (by decide) rfl ?_
        refine j_sub [1, 2, 0, 3] rfl ?_
        exact t_X9_acrossOf_78 hK hA hk he hf)
def f_X9_acrossOf (p1 : Int32) (S : St) : Option (Int32 × St) := lp (f_X9_acrossOf_4b p1 (fun v12 S13 => some (v12.1, S13))) FU ((0 : Int32), (0 : Int32)) S
theorem c_X9_acrossOf {p1 : Int32} {S : St} {r : Int32} {S' : St} (hf : f_X9_acrossOf p1 S = some (r, S')) : zM yX9_acrossOf cX9_acrossOf 4 2 (some .int) [.ref 98, .int p1] S (some (.int r)) S' := by
  refine zM_of (zpl (by decide)) (Nat.le_of_ble_eq_true rfl) rfl (fun K hK hA => ?_)
  unfold f_X9_acrossOf at hf
  refine j_iconst hK (0 : Int32) dX9_acrossOf_0 ic_0 ?_
  refine j_istore_n hK (L' := [(2, .int (0 : Int32)), (0, .ref 98), (1, .int p1)]) dX9_acrossOf_1 rfl (by decide) rfl ?_
  refine j_iconst hK (0 : Int32) dX9_acrossOf_2 ic_0 ?_
  refine j_istore_n hK (L' := [(3, .int (0 : Int32)), (2, .int (0 : Int32)), (0, .ref 98), (1, .int p1)]) dX9_acrossOf_3 rfl (by decide) rfl ?_
  refine j_sub [2, 3, 1, 0] rfl ?_
  refine t_X9_acrossOf_4 hK hA  (fun v12 S13 hf => ?_) _ _ _ hf
  refine j_iload_n hK dX9_acrossOf_84 0 rfl rfl ?_
  exact j_iret hK dX9_acrossOf_85 rfl (rt_I hA hf)
def f_X9_firstHalf_79 (x1 : Int32) (x2 : Int32) (x3 : Int32) (x4 : Int32) (k e : Int32 × Int32 × Int32 → St → Option (Int32 × St)) (S : St) : Option (Int32 × St) := k (x2, x3, (x4 + (1 : Int32))) S
theorem t_X9_firstHalf_79 {K : CT} (hK : KO K cX9_firstHalf RX9 6 3 (some .int)) {r : Int32} {S' : St} (hA : zans K = (some (.int r), S')) {x1 : Int32} {x2 : Int32} {x3 : Int32} {x4 : Int32} {k e : Int32 × Int32 × Int32 → St → Option (Int32 × St)} (hk : ∀ (v : Int32 × Int32 × Int32) (S : St), k v S = some (r, S') → J K 15 [(0, .ref 98), (1, .int x1), (2, .int v.1), (3, .int v.2.1), (4, .int v.2.2)] [] S) (he : ∀ (v : Int32 × Int32 × Int32) (S : St), e v S = some (r, S') → J K 85 [(2, .int v.1), (3, .int v.2.1)] [] S) {S : St} (hf : f_X9_firstHalf_79 x1 x2 x3 x4 k e S = some (r, S')) : J K 79 [(0, .ref 98), (1, .int x1), (2, .int x2), (3, .int x3), (4, .int x4)] [] S := by
  unfold f_X9_firstHalf_79 at hf
  refine j_iinc hK (L' := [(4, .int (x4 + (1 : Int32))), (0, .ref 98), (1, .int x1), (2, .int x2), (3, .int x3)]) dX9_firstHalf_79 4 rfl (congrArg (fun y => x4 + y) ic_1) (by decide) rfl ?_
  refine j_goto hK 15 dX9_firstHalf_82 (by decide) ?_
  refine j_sub [1, 2, 3, 4, 0] rfl ?_
  exact hk _ _ hf
def f_X9_firstHalf_50b (x1 : Int32) (x4 : Int32) (e : Int32 × Int32 × Int32 → St → Option (Int32 × St)) (k : Int32 × Int32 × Int32 → St → Option (Int32 × St)) (v : Int32 × Int32 × Int32) (S : St) : Option (Int32 × St) := (if (8 : Int32) ≤ v.2.2 then e (v.1, v.2.1, v.2.2) S else bd (f_X9_acrossOf v.1 S) (fun r1 S2 => lt (v.2.1 ||| r1) (fun y4 => bd (f_X9_acrossOf y4 S2) (fun r5 S6 => lt (v.1 ||| r5) (fun y8 => k (y8, y4, (v.2.2 + (1 : Int32))) S6)))))
theorem t_X9_firstHalf_50 {K : CT} (hK : KO K cX9_firstHalf RX9 6 3 (some .int)) {r : Int32} {S' : St} (hA : zans K = (some (.int r), S')) {x1 : Int32} {x4 : Int32} {e : Int32 × Int32 × Int32 → St → Option (Int32 × St)} (he : ∀ (v : Int32 × Int32 × Int32) (S : St), e v S = some (r, S') → J K 79 [(0, .ref 98), (1, .int x1), (2, .int v.1), (3, .int v.2.1), (4, .int x4)] [] S) : ∀ (n : Nat) (v : Int32 × Int32 × Int32) (S : St), lp (f_X9_firstHalf_50b x1 x4 e) n v S = some (r, S') → J K 50 [(0, .ref 98), (1, .int x1), (2, .int v.1), (3, .int v.2.1), (4, .int x4), (5, .int v.2.2)] [] S :=
  lp_J (P := fun (v : Int32 × Int32 × Int32) (S : St) => J K 50 [(0, .ref 98), (1, .int x1), (2, .int v.1), (3, .int v.2.1), (4, .int x4), (5, .int v.2.2)] [] S) (fun k hk v S hf => by
    unfold f_X9_firstHalf_50b at hf
    refine j_iload hK dX9_firstHalf_50 5 rfl ?_
    refine j_bipush hK (8 : Int32) dX9_firstHalf_52 bi_8 ?_
    refine j_icmp_ge hK 79 dX9_firstHalf_54 (by decide) (fun hc => ?_) (fun hc => ?_)
    · replace hf := if_1 hc hf
      refine j_sub [0, 1, 2, 3, 4] rfl ?_
      exact he _ _ hf
    · replace hf := if_2 hc hf
      refine j_iload_n hK dX9_firstHalf_57 3 rfl rfl ?_
      refine j_aload_n hK dX9_firstHalf_58 0 rfl rfl ?_
      refine j_iload_n hK dX9_firstHalf_59 2 rfl rfl ?_
      obtain ⟨r1, S2, h3, hf⟩ := bd_J hf
      refine k_callVi hK (c_X9_acrossOf h3) dX9_firstHalf_60 zclX9 zo_98 ml_X9_94 mi_X9_acrossOf mx_X9_acrossOf in_X9 mc_X9_acrossOf hy_X9_acrossOf ⟨by decide, by decide⟩ rfl (Nat.le_of_ble_eq_true rfl) ?_
      refine j_ior hK dX9_firstHalf_63 ?_
      refine lt_I hf (fun y4 hf => ?_)
      refine j_istore_n hK (L' := [(3, .int y4), (0, .ref 98), (1, .int x1), (2, .int v.1), (4, .int x4), (5, .int v.2.2)]) dX9_firstHalf_64 rfl (by decide) rfl ?_
      refine j_iload_n hK dX9_firstHalf_65 3 rfl rfl ?_
      refine j_pc (pc' := 66) rfl ?_
      refine j_aload_n hK dX9_firstHalf_66 1 rfl rfl ?_
      refine j_iload_n hK dX9_firstHalf_67 0 rfl rfl ?_
      obtain ⟨r5, S6, h7, hf⟩ := bd_J hf
      refine k_callVi hK (c_X9_acrossOf h7) dX9_firstHalf_68 zclX9 zo_98 ml_X9_94 mi_X9_acrossOf mx_X9_acrossOf in_X9 mc_X9_acrossOf hy_X9_acrossOf ⟨by decide, by decide⟩ rfl (Nat.le_of_ble_eq_true rfl) ?_
      refine j_ior hK dX9_firstHalf_71 ?_
      refine lt_I hf (fun y8 hf => ?_)
      refine j_istore_n hK (L' := [(2, .int y8), (3, .int y4), (0, .ref 98), (1, .int x1), (4, .int x4), (5, .int v.2.2)]) dX9_firstHalf_72 rfl (by decide) rfl ?_
      refine j_iinc hK (L' := [(5, .int (v.2.2 + (1 : Int32))), (2, .int y8), (3, .int y4), (0, .ref 98), (1, .int x1), (4, .int x4)]) dX9_firstHalf_73 5 rfl (congrArg (fun y => v.2.2 + y) ic_1) (by decide) rfl ?_
      refine j_goto hK 50 dX9_firstHalf_76 (by decide) ?_
      refine j_sub [3, 4, 1, 2, 5, 0] rfl ?_
      exact hk _ _ hf)
def f_X9_firstHalf_15b (x1 : Int32) (e : Int32 × Int32 × Int32 → St → Option (Int32 × St)) (k : Int32 × Int32 × Int32 → St → Option (Int32 × St)) (v : Int32 × Int32 × Int32) (S : St) : Option (Int32 × St) := (if (8 : Int32) ≤ v.2.2 then e (v.1, v.2.1, v.2.2) S else lt (((x1 &&& (v.1 ^^^ (-1 : Int32))) &&& (v.2.1 ^^^ (-1 : Int32))) >>> (v.2.2 &&& 31)) (fun y9 => (if (y9 &&& (1 : Int32)) = (1 : Int32) then lt (v.1 ||| ((1 : Int32) <<< (v.2.2 &&& 31))) (fun y10 => lp (f_X9_firstHalf_50b x1 v.2.2 (fun v11 S12 => f_X9_firstHalf_79 x1 v11.1 v11.2.1 v.2.2 k e S12)) FU (y10, v.2.1, (0 : Int32)) S) else f_X9_firstHalf_79 x1 v.1 v.2.1 v.2.2 k e S)))
theorem t_X9_firstHalf_15 {K : CT} (hK : KO K cX9_firstHalf RX9 6 3 (some .int)) {r : Int32} {S' : St} (hA : zans K = (some (.int r), S')) {x1 : Int32} {e : Int32 × Int32 × Int32 → St → Option (Int32 × St)} (he : ∀ (v : Int32 × Int32 × Int32) (S : St), e v S = some (r, S') → J K 85 [(2, .int v.1), (3, .int v.2.1)] [] S) : ∀ (n : Nat) (v : Int32 × Int32 × Int32) (S : St), lp (f_X9_firstHalf_15b x1 e) n v S = some (r, S') → J K 15 [(0, .ref 98), (1, .int x1), (2, .int v.1), (3, .int v.2.1), (4, .int v.2.2)] [] S :=
  lp_J (P := fun (v : Int32 × Int32 × Int32) (S : St) => J K 15 [(0, .ref 98), (1, .int x1), (2, .int v.1), (3, .int v.2.1), (4, .int v.2.2)] [] S) (fun k hk v S hf => by
    unfold f_X9_firstHalf_15b at hf
    refine j_iload hK dX9_firstHalf_15 4 rfl ?_
    refine j_bipush hK (8 : Int32) dX9_firstHalf_17 bi_8 ?_
    refine j_icmp_ge hK 85 dX9_firstHalf_19 (by decide) (fun hc => ?_) (fun hc => ?_)
    · replace hf := if_1 hc hf
      refine j_sub [2, 3] rfl ?_
      exact he _ _ hf
    · replace hf := if_2 hc hf
      refine j_iload_n hK dX9_firstHalf_22 1 rfl rfl ?_
      refine j_iload_n hK dX9_firstHalf_23 2 rfl rfl ?_
      refine j_iconst hK (-1 : Int32) dX9_firstHalf_24 ic_m1 ?_
      refine j_ixor hK dX9_firstHalf_25 ?_
      refine j_iand hK dX9_firstHalf_26 ?_
      refine j_iload_n hK dX9_firstHalf_27 3 rfl rfl ?_
      refine j_iconst hK (-1 : Int32) dX9_firstHalf_28 ic_m1 ?_
      refine j_pc (pc' := 29) rfl ?_
      refine j_ixor hK dX9_firstHalf_29 ?_
      refine j_iand hK dX9_firstHalf_30 ?_
      refine j_iload hK dX9_firstHalf_31 4 rfl ?_
      refine j_ishr hK dX9_firstHalf_33 ?_
      refine lt_I hf (fun y9 hf => ?_)
      refine j_iconst hK (1 : Int32) dX9_firstHalf_34 ic_1 ?_
      refine j_iand hK dX9_firstHalf_35 ?_
      refine j_iconst hK (1 : Int32) dX9_firstHalf_36 ic_1 ?_
      refine j_icmp_ne hK 79 dX9_firstHalf_37 (by decide) (fun hc => ?_) (fun hc => ?_)
      · replace hf := if_2 hc hf
        exact t_X9_firstHalf_79 hK hA hk he hf
      · replace hf := if_1 hc hf
        refine j_iload_n hK dX9_firstHalf_40 2 rfl rfl ?_
        refine j_iconst hK (1 : Int32) dX9_firstHalf_41 ic_1 ?_
        refine j_iload hK dX9_firstHalf_42 4 rfl ?_
        refine j_ishl hK dX9_firstHalf_44 ?_
        refine j_ior hK dX9_firstHalf_45 ?_
        refine lt_I hf (fun y10 hf => ?_)
        refine j_istore_n hK (L' := [(2, .int y10), (0, .ref 98), (1, .int x1), (3, .int v.2.1), (4, .int v.2.2)]) dX9_firstHalf_46 rfl (by decide) rfl ?_
        refine j_iconst hK (0 : Int32) dX9_firstHalf_47 ic_0 ?_
        refine j_pc (pc' := 48) rfl ?_
        refine j_istore hK (L' := [(5, .int (0 : Int32)), (2, .int y10), (0, .ref 98), (1, .int x1), (3, .int v.2.1), (4, .int v.2.2)]) dX9_firstHalf_48 (by decide) rfl ?_
        refine j_sub [2, 3, 1, 4, 5, 0] rfl ?_
        refine t_X9_firstHalf_50 hK hA  (fun v11 S12 hf => ?_) _ _ _ hf
        exact t_X9_firstHalf_79 hK hA hk he hf)
def f_X9_firstHalf (S : St) : Option (Int32 × St) := bd (f_X0_enteredCaverns S) (fun r13 S14 => lp (f_X9_firstHalf_15b r13 (fun v16 S17 => (if (v16.1 &&& v16.2.1) = 0 then some (v16.1, S17) else some ((-1 : Int32), S17)))) FU ((0 : Int32), (0 : Int32), (0 : Int32)) S14)
theorem c_X9_firstHalf {S : St} {r : Int32} {S' : St} (hf : f_X9_firstHalf S = some (r, S')) : zM yX9_firstHalf cX9_firstHalf 6 3 (some .int) [.ref 98] S (some (.int r)) S' := by
  refine zM_of (zpl (by decide)) (Nat.le_of_ble_eq_true rfl) rfl (fun K hK hA => ?_)
  unfold f_X9_firstHalf at hf
  refine j_aload_n hK dX9_firstHalf_0 0 rfl rfl ?_
  refine j_getR hK fl_X9_9 dX9_firstHalf_1 zo_98 zf_9_0 zr_98_0 ?_
  obtain ⟨r13, S14, h15, hf⟩ := bd_J hf
  refine k_callVi hK (c_X0_enteredCaverns h15) dX9_firstHalf_4 zclX0 zo_3 ml_X9_90 mi_X0_enteredCaverns mx_X0_enteredCaverns in_X0 mc_X0_enteredCaverns hy_X0_enteredCaverns ⟨by decide, by decide⟩ rfl (Nat.le_of_ble_eq_true rfl) ?_
  refine j_istore_n hK (L' := [(1, .int r13), (0, .ref 98)]) dX9_firstHalf_7 rfl (by decide) rfl ?_
  refine j_iconst hK (0 : Int32) dX9_firstHalf_8 ic_0 ?_
  refine j_istore_n hK (L' := [(2, .int (0 : Int32)), (1, .int r13), (0, .ref 98)]) dX9_firstHalf_9 rfl (by decide) rfl ?_
  refine j_iconst hK (0 : Int32) dX9_firstHalf_10 ic_0 ?_
  refine j_istore_n hK (L' := [(3, .int (0 : Int32)), (2, .int (0 : Int32)), (1, .int r13), (0, .ref 98)]) dX9_firstHalf_11 rfl (by decide) rfl ?_
  refine j_pc (pc' := 12) rfl ?_
  refine j_iconst hK (0 : Int32) dX9_firstHalf_12 ic_0 ?_
  refine j_istore hK (L' := [(4, .int (0 : Int32)), (3, .int (0 : Int32)), (2, .int (0 : Int32)), (1, .int r13), (0, .ref 98)]) dX9_firstHalf_13 (by decide) rfl ?_
  refine j_sub [4, 3, 2, 1, 0] rfl ?_
  refine t_X9_firstHalf_15 hK hA  (fun v16 S17 hf => ?_) _ _ _ hf
  refine j_iload_n hK dX9_firstHalf_85 0 rfl rfl ?_
  refine j_iload_n hK dX9_firstHalf_86 1 rfl rfl ?_
  refine j_iand hK dX9_firstHalf_87 ?_
  refine j_if_ne hK 95 dX9_firstHalf_88 (by decide) (fun hc => ?_) (fun hc => ?_)
  · replace hf := if_2 hc hf
    refine j_iconst hK (-1 : Int32) dX9_firstHalf_95 ic_m1 ?_
    exact j_iret hK dX9_firstHalf_96 rfl (rt_I hA hf)
  · replace hf := if_1 hc hf
    refine j_iload_n hK dX9_firstHalf_91 0 rfl rfl ?_
    refine j_goto hK 96 dX9_firstHalf_92 (by decide) ?_
    exact j_iret hK dX9_firstHalf_96 rfl (rt_I hA hf)
def f_X9_guarded_39 (x1 : Int32) (x2 : Int32) (k e : Int32 → St → Option (Int32 × St)) (S : St) : Option (Int32 × St) := k (x2 + (1 : Int32)) S
theorem t_X9_guarded_39 {K : CT} (hK : KO K cX9_guarded RX9 3 2 (some .boolean)) {r : Int32} {S' : St} (hA : zans K = (some (.int r), S')) {x1 : Int32} {x2 : Int32} {k e : Int32 → St → Option (Int32 × St)} (hk : ∀ (v : Int32) (S : St), k v S = some (r, S') → J K 2 [(0, .ref 98), (1, .int x1), (2, .int v)] [] S) (he : ∀ (v : Int32) (S : St), e v S = some (r, S') → J K 45 [] [] S) {S : St} (hf : f_X9_guarded_39 x1 x2 k e S = some (r, S')) : J K 39 [(0, .ref 98), (1, .int x1), (2, .int x2)] [] S := by
  unfold f_X9_guarded_39 at hf
  refine j_iinc hK (L' := [(2, .int (x2 + (1 : Int32))), (0, .ref 98), (1, .int x1)]) dX9_guarded_39 2 rfl (congrArg (fun y => x2 + y) ic_1) (by decide) rfl ?_
  refine j_goto hK 2 dX9_guarded_42 (by decide) ?_
  refine j_sub [1, 2, 0] rfl ?_
  exact hk _ _ hf
def f_X9_guarded_2b (x1 : Int32) (e : Int32 → St → Option (Int32 × St)) (k : Int32 → St → Option (Int32 × St)) (v : Int32) (S : St) : Option (Int32 × St) := (if (gI S 3 2) ≤ v then e v S else bd (f_X0_isOpen v S) (fun r1 S2 => (if r1 = 0 then f_X9_guarded_39 x1 v k e S2 else bd (f_X0_endsOf v S2) (fun r4 S5 => (if (x1 &&& r4) = 0 then some ((0 : Int32), S5) else f_X9_guarded_39 x1 v k e S5)))))
theorem t_X9_guarded_2 {K : CT} (hK : KO K cX9_guarded RX9 3 2 (some .boolean)) {r : Int32} {S' : St} (hA : zans K = (some (.int r), S')) {x1 : Int32} {e : Int32 → St → Option (Int32 × St)} (he : ∀ (v : Int32) (S : St), e v S = some (r, S') → J K 45 [] [] S) : ∀ (n : Nat) (v : Int32) (S : St), lp (f_X9_guarded_2b x1 e) n v S = some (r, S') → J K 2 [(0, .ref 98), (1, .int x1), (2, .int v)] [] S :=
  lp_J (P := fun (v : Int32) (S : St) => J K 2 [(0, .ref 98), (1, .int x1), (2, .int v)] [] S) (fun k hk v S hf => by
    unfold f_X9_guarded_2b at hf
    refine j_iload_n hK dX9_guarded_2 2 rfl rfl ?_
    refine j_aload_n hK dX9_guarded_3 0 rfl rfl ?_
    refine j_getR hK fl_X9_9 dX9_guarded_4 zo_98 zf_9_0 zr_98_0 ?_
    refine j_getI hK fl_X9_22 dX9_guarded_7 zo_3 zf_0_2 ?_
    refine j_icmp_ge hK 45 dX9_guarded_10 (by decide) (fun hc => ?_) (fun hc => ?_)
    · replace hf := if_1 hc hf
      refine j_sub [] rfl ?_
      exact he _ _ hf
    · replace hf := if_2 hc hf
      refine j_aload_n hK dX9_guarded_13 0 rfl rfl ?_
      refine j_getR hK fl_X9_9 dX9_guarded_14 zo_98 zf_9_0 zr_98_0 ?_
      refine j_iload_n hK dX9_guarded_17 2 rfl rfl ?_
      obtain ⟨r1, S2, h3, hf⟩ := bd_J hf
      refine k_callVi hK (c_X0_isOpen h3) dX9_guarded_18 zclX0 zo_3 ml_X9_28 mi_X0_isOpen mx_X0_isOpen in_X0 mc_X0_isOpen hy_X0_isOpen ⟨by decide, by decide⟩ rfl (Nat.le_of_ble_eq_true rfl) ?_
      refine j_if_eq hK 39 dX9_guarded_21 (by decide) (fun hc => ?_) (fun hc => ?_)
      · replace hf := if_1 hc hf
        exact t_X9_guarded_39 hK hA hk he hf
      · replace hf := if_2 hc hf
        refine j_iload_n hK dX9_guarded_24 1 rfl rfl ?_
        refine j_aload_n hK dX9_guarded_25 0 rfl rfl ?_
        refine j_getR hK fl_X9_9 dX9_guarded_26 zo_98 zf_9_0 zr_98_0 ?_
        refine j_iload_n hK dX9_guarded_29 2 rfl rfl ?_
        obtain ⟨r4, S5, h6, hf⟩ := bd_J hf
        refine k_callVi hK (c_X0_endsOf h6) dX9_guarded_30 zclX0 zo_3 ml_X9_70 mi_X0_endsOf mx_X0_endsOf in_X0 mc_X0_endsOf hy_X0_endsOf ⟨by decide, by decide⟩ rfl (Nat.le_of_ble_eq_true rfl) ?_
        refine j_iand hK dX9_guarded_33 ?_
        refine j_if_ne hK 39 dX9_guarded_34 (by decide) (fun hc => ?_) (fun hc => ?_)
        · replace hf := if_2 hc hf
          exact t_X9_guarded_39 hK hA hk he hf
        · replace hf := if_1 hc hf
          refine j_iconst hK (0 : Int32) dX9_guarded_37 ic_0 ?_
          exact j_zret hK dX9_guarded_38 rfl rfl (rt_I hA hf))
def f_X9_guarded (p1 : Int32) (S : St) : Option (Int32 × St) := lp (f_X9_guarded_2b p1 (fun v7 S8 => some ((1 : Int32), S8))) FU (0 : Int32) S
theorem c_X9_guarded {p1 : Int32} {S : St} {r : Int32} {S' : St} (hf : f_X9_guarded p1 S = some (r, S')) : zM yX9_guarded cX9_guarded 3 2 (some .boolean) [.ref 98, .int p1] S (some (.int r)) S' := by
  refine zM_of (zpl (by decide)) (Nat.le_of_ble_eq_true rfl) rfl (fun K hK hA => ?_)
  unfold f_X9_guarded at hf
  refine j_iconst hK (0 : Int32) dX9_guarded_0 ic_0 ?_
  refine j_istore_n hK (L' := [(2, .int (0 : Int32)), (0, .ref 98), (1, .int p1)]) dX9_guarded_1 rfl (by decide) rfl ?_
  refine j_sub [1, 2, 0] rfl ?_
  refine t_X9_guarded_2 hK hA  (fun v7 S8 hf => ?_) _ _ _ hf
  refine j_iconst hK (1 : Int32) dX9_guarded_45 ic_1 ?_
  exact j_zret hK dX9_guarded_46 rfl rfl (rt_I hA hf)
