def f_X10_isCavern (p0 : Int32) (S : St) : Option (Int32 × St) := (if p0 < 0 then some ((0 : Int32), S) else (if (8 : Int32) ≤ p0 then some ((0 : Int32), S) else some ((1 : Int32), S)))
theorem c_X10_isCavern {p0 : Int32} {S : St} {r : Int32} {S' : St} (hf : f_X10_isCavern p0 S = some (r, S')) : zM yX10_isCavern cX10_isCavern 1 1 (some .boolean) [.int p0] S (some (.int r)) S' := by
  refine zM_of (zpl (by decide)) (Nat.le_of_ble_eq_true rfl) rfl (fun K hK hA => ?_)
  unfold f_X10_isCavern at hf
  refine j_iload_n hK dX10_isCavern_0 0 rfl rfl ?_
  refine j_if_lt hK 14 dX10_isCavern_1 (by decide) (fun hc => ?_) (fun hc => ?_)
  · replace hf := if_1 hc hf
    refine j_iconst hK (0 : Int32) dX10_isCavern_14 ic_0 ?_
    exact j_zret hK dX10_isCavern_15 rfl rfl (rt_I hA hf)
  · replace hf := if_2 hc hf
    refine j_iload_n hK dX10_isCavern_4 0 rfl rfl ?_
    refine j_bipush hK (8 : Int32) dX10_isCavern_5 bi_8 ?_
    refine j_icmp_ge hK 14 dX10_isCavern_7 (by decide) (fun hc => ?_) (fun hc => ?_)
    · replace hf := if_1 hc hf
      refine j_iconst hK (0 : Int32) dX10_isCavern_14 ic_0 ?_
      exact j_zret hK dX10_isCavern_15 rfl rfl (rt_I hA hf)
    · replace hf := if_2 hc hf
      refine j_iconst hK (1 : Int32) dX10_isCavern_10 ic_1 ?_
      refine j_goto hK 15 dX10_isCavern_11 (by decide) ?_
      exact j_zret hK dX10_isCavern_15 rfl rfl (rt_I hA hf)
def f_X0_isEnd_20 (S : St) : Option (Int32 × St) := some ((1 : Int32), S)
theorem t_X0_isEnd_20 {K : CT} (hK : KO K cX0_isEnd RX0 3 1 (some .boolean)) {r : Int32} {S' : St} (hA : zans K = (some (.int r), S')) {S : St} (hf : f_X0_isEnd_20  S = some (r, S')) : J K 20 [] [] S := by
  unfold f_X0_isEnd_20 at hf
  refine j_iconst hK (1 : Int32) dX0_isEnd_20 ic_1 ?_
  refine j_goto hK 25 dX0_isEnd_21 (by decide) ?_
  exact j_zret hK dX0_isEnd_25 rfl rfl (rt_I hA hf)
def f_X0_isEnd (p1 : Int32) (p2 : Int32) (S : St) : Option (Int32 × St) := if inb p2 12 then (if (gI S 4 p2.toNatClampNeg) = p1 then f_X0_isEnd_20  S else if inb p2 12 then (if (gI S 5 p2.toNatClampNeg) = p1 then f_X0_isEnd_20  S else some ((0 : Int32), S)) else none) else none
theorem c_X0_isEnd {p1 : Int32} {p2 : Int32} {S : St} {r : Int32} {S' : St} (hf : f_X0_isEnd p1 p2 S = some (r, S')) : zM yX0_isEnd cX0_isEnd 3 1 (some .boolean) [.ref 3, .int p1, .int p2] S (some (.int r)) S' := by
  refine zM_of (zpl (by decide)) (Nat.le_of_ble_eq_true rfl) rfl (fun K hK hA => ?_)
  unfold f_X0_isEnd at hf
  refine j_aload_n hK dX0_isEnd_0 0 rfl rfl ?_
  refine j_getR hK fl_X0_9 dX0_isEnd_1 zo_3 zf_0_0 zr_3_0 ?_
  refine j_iload_n hK dX0_isEnd_4 2 rfl rfl ?_
  obtain ⟨hi1, hf⟩ := gd hf
  refine k_iald hK dX0_isEnd_5 zb_4 hi1 rfl ?_
  refine j_iload_n hK dX0_isEnd_6 1 rfl rfl ?_
  refine j_icmp_eq hK 20 dX0_isEnd_7 (by decide) (fun hc => ?_) (fun hc => ?_)
  · replace hf := if_1 hc hf
    refine j_sub [] rfl ?_
    exact t_X0_isEnd_20 hK hA  hf
  · replace hf := if_2 hc hf
    refine j_aload_n hK dX0_isEnd_10 0 rfl rfl ?_
    refine j_getR hK fl_X0_15 dX0_isEnd_11 zo_3 zf_0_1 zr_3_1 ?_
    refine j_iload_n hK dX0_isEnd_14 2 rfl rfl ?_
    obtain ⟨hi2, hf⟩ := gd hf
    refine k_iald hK dX0_isEnd_15 zb_5 hi2 rfl ?_
    refine j_iload_n hK dX0_isEnd_16 1 rfl rfl ?_
    refine j_icmp_ne hK 24 dX0_isEnd_17 (by decide) (fun hc => ?_) (fun hc => ?_)
    · replace hf := if_2 hc hf
      refine j_iconst hK (0 : Int32) dX0_isEnd_24 ic_0 ?_
      exact j_zret hK dX0_isEnd_25 rfl rfl (rt_I hA hf)
    · replace hf := if_1 hc hf
      refine j_sub [] rfl ?_
      exact t_X0_isEnd_20 hK hA  hf
def f_X0_endingAt_27 (x1 : Int32) (x2 : Int32) (x3 : Int32) (k e : Int32 × Int32 → St → Option (Int32 × St)) (S : St) : Option (Int32 × St) := k (x2, (x3 + (1 : Int32))) S
theorem t_X0_endingAt_27 {K : CT} (hK : KO K cX0_endingAt RX0 4 2 (some .int)) {r : Int32} {S' : St} (hA : zans K = (some (.int r), S')) {x1 : Int32} {x2 : Int32} {x3 : Int32} {k e : Int32 × Int32 → St → Option (Int32 × St)} (hk : ∀ (v : Int32 × Int32) (S : St), k v S = some (r, S') → J K 4 [(0, .ref 3), (1, .int x1), (2, .int v.1), (3, .int v.2)] [] S) (he : ∀ (v : Int32 × Int32) (S : St), e v S = some (r, S') → J K 33 [(2, .int v.1)] [] S) {S : St} (hf : f_X0_endingAt_27 x1 x2 x3 k e S = some (r, S')) : J K 27 [(0, .ref 3), (1, .int x1), (2, .int x2), (3, .int x3)] [] S := by
  unfold f_X0_endingAt_27 at hf
  refine j_iinc hK (L' := [(3, .int (x3 + (1 : Int32))), (0, .ref 3), (1, .int x1), (2, .int x2)]) dX0_endingAt_27 3 rfl (congrArg (fun y => x3 + y) ic_1) (by decide) rfl ?_
  refine j_goto hK 4 dX0_endingAt_30 (by decide) ?_
  refine j_sub [1, 2, 3, 0] rfl ?_
  exact hk _ _ hf
def f_X0_endingAt_4b (x1 : Int32) (e : Int32 × Int32 → St → Option (Int32 × St)) (k : Int32 × Int32 → St → Option (Int32 × St)) (v : Int32 × Int32) (S : St) : Option (Int32 × St) := (if (gI S 3 2) ≤ v.2 then e (v.1, v.2) S else bd (f_X0_isEnd x1 v.2 S) (fun r1 S2 => (if r1 = 0 then f_X0_endingAt_27 x1 v.1 v.2 k e S2 else lt (v.1 ||| ((1 : Int32) <<< (v.2 &&& 31))) (fun y4 => f_X0_endingAt_27 x1 y4 v.2 k e S2))))
theorem t_X0_endingAt_4 {K : CT} (hK : KO K cX0_endingAt RX0 4 2 (some .int)) {r : Int32} {S' : St} (hA : zans K = (some (.int r), S')) {x1 : Int32} {e : Int32 × Int32 → St → Option (Int32 × St)} (he : ∀ (v : Int32 × Int32) (S : St), e v S = some (r, S') → J K 33 [(2, .int v.1)] [] S) : ∀ (n : Nat) (v : Int32 × Int32) (S : St), lp (f_X0_endingAt_4b x1 e) n v S = some (r, S') → J K 4 [(0, .ref 3), (1, .int x1), (2, .int v.1), (3, .int v.2)] [] S :=
  lp_J (P := fun (v : Int32 × Int32) (S : St) => J K 4 [(0, .ref 3), (1, .int x1), (2, .int v.1), (3, .int v.2)] [] S) (fun k hk v S hf => by
    unfold f_X0_endingAt_4b at hf
    refine j_iload_n hK dX0_endingAt_4 3 rfl rfl ?_
    refine j_aload_n hK dX0_endingAt_5 0 rfl rfl ?_
    refine j_getI hK fl_X0_18 dX0_endingAt_6 zo_3 zf_0_2 ?_
    refine j_icmp_ge hK 33 dX0_endingAt_9 (by decide) (fun hc => ?_) (fun hc => ?_)
    · replace hf := if_1 hc hf
      refine j_sub [2] rfl ?_
      exact he _ _ hf
    · replace hf := if_2 hc hf
      refine j_aload_n hK dX0_endingAt_12 0 rfl rfl ?_
      refine j_iload_n hK dX0_endingAt_13 1 rfl rfl ?_
      refine j_iload_n hK dX0_endingAt_14 3 rfl rfl ?_
      obtain ⟨r1, S2, h3, hf⟩ := bd_J hf
      refine k_callVi hK (c_X0_isEnd h3) dX0_endingAt_15 zclX0 zo_3 ml_X0_41 mi_X0_isEnd mx_X0_isEnd in_X0 mc_X0_isEnd hy_X0_isEnd ⟨by decide, by decide⟩ rfl (Nat.le_of_ble_eq_true rfl) ?_
      refine j_if_eq hK 27 dX0_endingAt_18 (by decide) (fun hc => ?_) (fun hc => ?_)
      · replace hf := if_1 hc hf
        exact t_X0_endingAt_27 hK hA hk he hf
      · replace hf := if_2 hc hf
        refine j_iload_n hK dX0_endingAt_21 2 rfl rfl ?_
        refine j_iconst hK (1 : Int32) dX0_endingAt_22 ic_1 ?_
        refine j_iload_n hK dX0_endingAt_23 3 rfl rfl ?_
        refine j_ishl hK dX0_endingAt_24 ?_
        refine j_ior hK dX0_endingAt_25 ?_
        refine lt_I hf (fun y4 hf => ?_)
        refine j_istore_n hK (L' := [(2, .int y4), (0, .ref 3), (1, .int x1), (3, .int v.2)]) dX0_endingAt_26 rfl (by decide) rfl ?_
        refine j_sub [1, 2, 0, 3] rfl ?_
        exact t_X0_endingAt_27 hK hA hk he hf)
def f_X0_endingAt (p1 : Int32) (S : St) : Option (Int32 × St) := lp (f_X0_endingAt_4b p1 (fun v5 S6 => some (v5.1, S6))) FU ((0 : Int32), (0 : Int32)) S
theorem c_X0_endingAt {p1 : Int32} {S : St} {r : Int32} {S' : St} (hf : f_X0_endingAt p1 S = some (r, S')) : zM yX0_endingAt cX0_endingAt 4 2 (some .int) [.ref 3, .int p1] S (some (.int r)) S' := by
  refine zM_of (zpl (by decide)) (Nat.le_of_ble_eq_true rfl) rfl (fun K hK hA => ?_)
  unfold f_X0_endingAt at hf
  refine j_iconst hK (0 : Int32) dX0_endingAt_0 ic_0 ?_
  refine j_istore_n hK (L' := [(2, .int (0 : Int32)), (0, .ref 3), (1, .int p1)]) dX0_endingAt_1 rfl (by decide) rfl ?_
  refine j_iconst hK (0 : Int32) dX0_endingAt_2 ic_0 ?_
  refine j_istore_n hK (L' := [(3, .int (0 : Int32)), (2, .int (0 : Int32)), (0, .ref 3), (1, .int p1)]) dX0_endingAt_3 rfl (by decide) rfl ?_
  refine j_sub [2, 3, 1, 0] rfl ?_
  refine t_X0_endingAt_4 hK hA  (fun v5 S6 hf => ?_) _ _ _ hf
  refine j_iload_n hK dX0_endingAt_33 0 rfl rfl ?_
  exact j_iret hK dX0_endingAt_34 rfl (rt_I hA hf)
def f_X0_openOf (p1 : Int32) (S : St) : Option (Int32 × St) := bd (f_X0_endingAt p1 S) (fun r1 S2 => some ((r1 &&& (gI S2 6 3)), S2))
theorem c_X0_openOf {p1 : Int32} {S : St} {r : Int32} {S' : St} (hf : f_X0_openOf p1 S = some (r, S')) : zM yX0_openOf cX0_openOf 2 3 (some .int) [.ref 3, .int p1] S (some (.int r)) S' := by
  refine zM_of (zpl (by decide)) (Nat.le_of_ble_eq_true rfl) rfl (fun K hK hA => ?_)
  unfold f_X0_openOf at hf
  refine j_aload_n hK dX0_openOf_0 0 rfl rfl ?_
  refine j_iload_n hK dX0_openOf_1 1 rfl rfl ?_
  obtain ⟨r1, S2, h3, hf⟩ := bd_J hf
  refine k_callVi hK (c_X0_endingAt h3) dX0_openOf_2 zclX0 zo_3 ml_X0_45 mi_X0_endingAt mx_X0_endingAt in_X0 mc_X0_endingAt hy_X0_endingAt ⟨by decide, by decide⟩ rfl (Nat.le_of_ble_eq_true rfl) ?_
  refine j_aload_n hK dX0_openOf_5 0 rfl rfl ?_
  refine j_getR hK fl_X0_25 dX0_openOf_6 zo_3 zf_0_3 zr_3_3 ?_
  refine j_getI hK fl_X0_38 dX0_openOf_9 zo_6 zf_7_3 ?_
  refine j_iand hK dX0_openOf_12 ?_
  exact j_iret hK dX0_openOf_13 rfl (rt_I hA hf)
def f_X9_shorten (p1 : Int32) (p2 : Int32) (p3 : Int32) (S : St) : Option (Unit × St) := if inb ((p1 * (8 : Int32)) + p2) 64 then if inb ((p1 * (8 : Int32)) + p2) 64 then lt (sI S 99 ((p1 * (8 : Int32)) + p2).toNatClampNeg (mnI (gI S 99 ((p1 * (8 : Int32)) + p2).toNatClampNeg) p3)) (fun S3 => some ((), S3)) else none else none
theorem c_X9_shorten {p1 : Int32} {p2 : Int32} {p3 : Int32} {S : St} {r : Unit} {S' : St} (hf : f_X9_shorten p1 p2 p3 S = some (r, S')) : zM yX9_shorten cX9_shorten 4 1 none [.ref 98, .int p1, .int p2, .int p3] S (none) S' := by
  refine zM_of (zpl (by decide)) (Nat.le_of_ble_eq_true rfl) rfl (fun K hK hA => ?_)
  unfold f_X9_shorten at hf
  refine j_aload_n hK dX9_shorten_0 0 rfl rfl ?_
  refine j_getR hK fl_X9_15 dX9_shorten_1 zo_98 zf_9_1 zr_98_1 ?_
  refine j_iload_n hK dX9_shorten_4 1 rfl rfl ?_
  refine j_bipush hK (8 : Int32) dX9_shorten_5 bi_8 ?_
  refine j_imul hK dX9_shorten_7 ?_
  refine j_iload_n hK dX9_shorten_8 2 rfl rfl ?_
  refine j_iadd hK dX9_shorten_9 ?_
  refine j_aload_n hK dX9_shorten_10 0 rfl rfl ?_
  refine j_pc (pc' := 11) rfl ?_
  refine j_getR hK fl_X9_15 dX9_shorten_11 zo_98 zf_9_1 zr_98_1 ?_
  refine j_iload_n hK dX9_shorten_14 1 rfl rfl ?_
  refine j_bipush hK (8 : Int32) dX9_shorten_15 bi_8 ?_
  refine j_imul hK dX9_shorten_17 ?_
  refine j_iload_n hK dX9_shorten_18 2 rfl rfl ?_
  refine j_iadd hK dX9_shorten_19 ?_
  obtain ⟨hi1, hf⟩ := gd hf
  refine k_iald hK dX9_shorten_20 zb_99 hi1 rfl ?_
  refine j_iload_n hK dX9_shorten_21 3 rfl rfl ?_
  refine j_pc (pc' := 22) rfl ?_
  refine j_min hK ml_X9_55 dX9_shorten_22 (by decide) (Nat.le_of_ble_eq_true rfl) ?_
  obtain ⟨hi2, hf⟩ := gd hf
  refine k_iast hK dX9_shorten_25 zb_99 hi2 rfl ?_
  refine lt_S hf (fun S3 hf => ?_)
  exact j_vret hK dX9_shorten_26 rfl (rt_V hA hf)
def f_X9_farOf (p1 : Int32) (p2 : Int32) (S : St) : Option (Int32 × St) := if inb ((p1 * (8 : Int32)) + p2) 64 then some ((gI S 99 ((p1 * (8 : Int32)) + p2).toNatClampNeg), S) else none
theorem c_X9_farOf {p1 : Int32} {p2 : Int32} {S : St} {r : Int32} {S' : St} (hf : f_X9_farOf p1 p2 S = some (r, S')) : zM yX9_farOf cX9_farOf 3 1 (some .int) [.ref 98, .int p1, .int p2] S (some (.int r)) S' := by
  refine zM_of (zpl (by decide)) (Nat.le_of_ble_eq_true rfl) rfl (fun K hK hA => ?_)
  unfold f_X9_farOf at hf
  refine j_aload_n hK dX9_farOf_0 0 rfl rfl ?_
  refine j_getR hK fl_X9_15 dX9_farOf_1 zo_98 zf_9_1 zr_98_1 ?_
  refine j_iload_n hK dX9_farOf_4 1 rfl rfl ?_
  refine j_bipush hK (8 : Int32) dX9_farOf_5 bi_8 ?_
  refine j_imul hK dX9_farOf_7 ?_
  refine j_iload_n hK dX9_farOf_8 2 rfl rfl ?_
  refine j_iadd hK dX9_farOf_9 ?_
  obtain ⟨hi1, hf⟩ := gd hf
  refine k_iald hK dX9_farOf_10 zb_99 hi1 rfl ?_
  refine j_pc (pc' := 11) rfl ?_
  exact j_iret hK dX9_farOf_11 rfl (rt_I hA hf)
def f_X9_measure_167b (x1 : Int32) (x2 : Int32) (e : Int32 → St → Option (Unit × St)) (k : Int32 → St → Option (Unit × St)) (v : Int32) (S : St) : Option (Unit × St) := (if (8 : Int32) ≤ v then e v S else bd (f_X9_farOf x2 x1 S) (fun r1 S2 => bd (f_X9_farOf x1 v S2) (fun r4 S5 => bd (f_X9_shorten x2 v (r1 + r4) S5) (fun r7 S8 => k (v + (1 : Int32)) S8))))
theorem t_X9_measure_167 {K : CT} (hK : KO K cX9_measure RX9 4 2 none) {r : Unit} {S' : St} (hA : zans K = (none, S')) {x1 : Int32} {x2 : Int32} {e : Int32 → St → Option (Unit × St)} (he : ∀ (v : Int32) (S : St), e v S = some (r, S') → J K 198 [(0, .ref 98), (1, .int x1), (2, .int x2)] [] S) : ∀ (n : Nat) (v : Int32) (S : St), lp (f_X9_measure_167b x1 x2 e) n v S = some (r, S') → J K 167 [(0, .ref 98), (1, .int x1), (2, .int x2), (3, .int v)] [] S :=
  lp_J (P := fun (v : Int32) (S : St) => J K 167 [(0, .ref 98), (1, .int x1), (2, .int x2), (3, .int v)] [] S) (fun k hk v S hf => by
    unfold f_X9_measure_167b at hf
    refine j_iload_n hK dX9_measure_167 3 rfl rfl ?_
    refine j_bipush hK (8 : Int32) dX9_measure_168 bi_8 ?_
    refine j_icmp_ge hK 198 dX9_measure_170 (by decide) (fun hc => ?_) (fun hc => ?_)
    · replace hf := if_1 hc hf
      refine j_sub [0, 1, 2] rfl ?_
      exact he _ _ hf
    · replace hf := if_2 hc hf
      refine j_aload_n hK dX9_measure_173 0 rfl rfl ?_
      refine j_iload_n hK dX9_measure_174 2 rfl rfl ?_
      refine j_iload_n hK dX9_measure_175 3 rfl rfl ?_
      refine j_aload_n hK dX9_measure_176 0 rfl rfl ?_
      refine j_iload_n hK dX9_measure_177 2 rfl rfl ?_
      refine j_iload_n hK dX9_measure_178 1 rfl rfl ?_
      obtain ⟨r1, S2, h3, hf⟩ := bd_J hf
      refine k_callVi hK (c_X9_farOf h3) dX9_measure_179 zclX9 zo_98 ml_X9_51 mi_X9_farOf mx_X9_farOf in_X9 mc_X9_farOf hy_X9_farOf ⟨by decide, by decide⟩ rfl (Nat.le_of_ble_eq_true rfl) ?_
      refine j_pc (pc' := 182) rfl ?_
      refine j_aload_n hK dX9_measure_182 0 rfl rfl ?_
      refine j_iload_n hK dX9_measure_183 1 rfl rfl ?_
      refine j_iload_n hK dX9_measure_184 3 rfl rfl ?_
      obtain ⟨r4, S5, h6, hf⟩ := bd_J hf
      refine k_callVi hK (c_X9_farOf h6) dX9_measure_185 zclX9 zo_98 ml_X9_51 mi_X9_farOf mx_X9_farOf in_X9 mc_X9_farOf hy_X9_farOf ⟨by decide, by decide⟩ rfl (Nat.le_of_ble_eq_true rfl) ?_
      refine j_iadd hK dX9_measure_188 ?_
      obtain ⟨r7, S8, h9, hf⟩ := bd_J hf
      refine k_callVv hK (c_X9_shorten h9) dX9_measure_189 zclX9 zo_98 ml_X9_47 mi_X9_shorten mx_X9_shorten in_X9 mc_X9_shorten hy_X9_shorten ⟨by decide, by decide⟩ rfl (Nat.le_of_ble_eq_true rfl) ?_
      refine j_iinc hK (L' := [(3, .int (v + (1 : Int32))), (0, .ref 98), (1, .int x1), (2, .int x2)]) dX9_measure_192 3 rfl (congrArg (fun y => v + y) ic_1) (by decide) rfl ?_
      refine j_goto hK 167 dX9_measure_195 (by decide) ?_
      refine j_sub [1, 2, 3, 0] rfl ?_
      exact hk _ _ hf)
def f_X9_measure_159b (x1 : Int32) (e : Int32 → St → Option (Unit × St)) (k : Int32 → St → Option (Unit × St)) (v : Int32) (S : St) : Option (Unit × St) := (if (8 : Int32) ≤ v then e v S else lp (f_X9_measure_167b x1 v (fun v10 S11 => k (v + (1 : Int32)) S11)) FU (0 : Int32) S)
theorem t_X9_measure_159 {K : CT} (hK : KO K cX9_measure RX9 4 2 none) {r : Unit} {S' : St} (hA : zans K = (none, S')) {x1 : Int32} {e : Int32 → St → Option (Unit × St)} (he : ∀ (v : Int32) (S : St), e v S = some (r, S') → J K 204 [(0, .ref 98), (1, .int x1)] [] S) : ∀ (n : Nat) (v : Int32) (S : St), lp (f_X9_measure_159b x1 e) n v S = some (r, S') → J K 159 [(0, .ref 98), (1, .int x1), (2, .int v)] [] S :=
  lp_J (P := fun (v : Int32) (S : St) => J K 159 [(0, .ref 98), (1, .int x1), (2, .int v)] [] S) (fun k hk v S hf => by
    unfold f_X9_measure_159b at hf
    refine j_iload_n hK dX9_measure_159 2 rfl rfl ?_
    refine j_bipush hK (8 : Int32) dX9_measure_160 bi_8 ?_
    refine j_icmp_ge hK 204 dX9_measure_162 (by decide) (fun hc => ?_) (fun hc => ?_)
    · replace hf := if_1 hc hf
      refine j_sub [0, 1] rfl ?_
      exact he _ _ hf
    · replace hf := if_2 hc hf
      refine j_iconst hK (0 : Int32) dX9_measure_165 ic_0 ?_
      refine j_istore_n hK (L' := [(3, .int (0 : Int32)), (0, .ref 98), (1, .int x1), (2, .int v)]) dX9_measure_166 rfl (by decide) rfl ?_
      refine j_sub [1, 2, 3, 0] rfl ?_
      refine t_X9_measure_167 hK hA  (fun v10 S11 hf => ?_) _ _ _ hf
      refine j_iinc hK (L' := [(2, .int (v + (1 : Int32))), (0, .ref 98), (1, .int x1)]) dX9_measure_198 2 rfl (congrArg (fun y => v + y) ic_1) (by decide) rfl ?_
      refine j_goto hK 159 dX9_measure_201 (by decide) ?_
      refine j_sub [1, 2, 0] rfl ?_
      exact hk _ _ hf)
def f_X9_measure_151b (e : Int32 → St → Option (Unit × St)) (k : Int32 → St → Option (Unit × St)) (v : Int32) (S : St) : Option (Unit × St) := (if (8 : Int32) ≤ v then e v S else lp (f_X9_measure_159b v (fun v12 S13 => k (v + (1 : Int32)) S13)) FU (0 : Int32) S)
theorem t_X9_measure_151 {K : CT} (hK : KO K cX9_measure RX9 4 2 none) {r : Unit} {S' : St} (hA : zans K = (none, S')) {e : Int32 → St → Option (Unit × St)} (he : ∀ (v : Int32) (S : St), e v S = some (r, S') → J K 210 [] [] S) : ∀ (n : Nat) (v : Int32) (S : St), lp (f_X9_measure_151b  e) n v S = some (r, S') → J K 151 [(0, .ref 98), (1, .int v)] [] S :=
  lp_J (P := fun (v : Int32) (S : St) => J K 151 [(0, .ref 98), (1, .int v)] [] S) (fun k hk v S hf => by
    unfold f_X9_measure_151b at hf
    refine j_iload_n hK dX9_measure_151 1 rfl rfl ?_
    refine j_bipush hK (8 : Int32) dX9_measure_152 bi_8 ?_
    refine j_icmp_ge hK 210 dX9_measure_154 (by decide) (fun hc => ?_) (fun hc => ?_)
    · replace hf := if_1 hc hf
      refine j_sub [] rfl ?_
      exact he _ _ hf
    · replace hf := if_2 hc hf
      refine j_iconst hK (0 : Int32) dX9_measure_157 ic_0 ?_
      refine j_istore_n hK (L' := [(2, .int (0 : Int32)), (0, .ref 98), (1, .int v)]) dX9_measure_158 rfl (by decide) rfl ?_
      refine j_sub [1, 2, 0] rfl ?_
      refine t_X9_measure_159 hK hA  (fun v12 S13 hf => ?_) _ _ _ hf
      refine j_iinc hK (L' := [(1, .int (v + (1 : Int32))), (0, .ref 98)]) dX9_measure_204 1 rfl (congrArg (fun y => v + y) ic_1) (by decide) rfl ?_
      refine j_goto hK 151 dX9_measure_207 (by decide) ?_
      refine j_sub [1, 0] rfl ?_
      exact hk _ _ hf)
def f_X9_measure_143 (x1 : Int32) (k e : Int32 → St → Option (Unit × St)) (S : St) : Option (Unit × St) := k (x1 + (1 : Int32)) S
theorem t_X9_measure_143 {K : CT} (hK : KO K cX9_measure RX9 4 2 none) {r : Unit} {S' : St} (hA : zans K = (none, S')) {x1 : Int32} {k e : Int32 → St → Option (Unit × St)} (hk : ∀ (v : Int32) (S : St), k v S = some (r, S') → J K 53 [(0, .ref 98), (1, .int v)] [] S) (he : ∀ (v : Int32) (S : St), e v S = some (r, S') → J K 149 [(0, .ref 98)] [] S) {S : St} (hf : f_X9_measure_143 x1 k e S = some (r, S')) : J K 143 [(0, .ref 98), (1, .int x1)] [] S := by
  unfold f_X9_measure_143 at hf
  refine j_iinc hK (L' := [(1, .int (x1 + (1 : Int32))), (0, .ref 98)]) dX9_measure_143 1 rfl (congrArg (fun y => x1 + y) ic_1) (by decide) rfl ?_
  refine j_goto hK 53 dX9_measure_146 (by decide) ?_
  refine j_sub [1, 0] rfl ?_
  exact hk _ _ hf
def f_X9_measure_53b (e : Int32 → St → Option (Unit × St)) (k : Int32 → St → Option (Unit × St)) (v : Int32) (S : St) : Option (Unit × St) := (if (gI S 3 2) ≤ v then e v S else bd (f_X0_isOpen v S) (fun r14 S15 => (if r14 = 0 then f_X9_measure_143 v k e S15 else if inb v 12 then if inb v 12 then if inb v 12 then bd (f_X9_shorten (gI S15 4 v.toNatClampNeg) (gI S15 5 v.toNatClampNeg) (gI S15 7 v.toNatClampNeg) S15) (fun r20 S21 => if inb v 12 then if inb v 12 then if inb v 12 then bd (f_X9_shorten (gI S21 5 v.toNatClampNeg) (gI S21 4 v.toNatClampNeg) (gI S21 7 v.toNatClampNeg) S21) (fun r26 S27 => f_X9_measure_143 v k e S27) else none else none else none) else none else none else none)))
theorem t_X9_measure_53 {K : CT} (hK : KO K cX9_measure RX9 4 2 none) {r : Unit} {S' : St} (hA : zans K = (none, S')) {e : Int32 → St → Option (Unit × St)} (he : ∀ (v : Int32) (S : St), e v S = some (r, S') → J K 149 [(0, .ref 98)] [] S) : ∀ (n : Nat) (v : Int32) (S : St), lp (f_X9_measure_53b  e) n v S = some (r, S') → J K 53 [(0, .ref 98), (1, .int v)] [] S :=
  lp_J (P := fun (v : Int32) (S : St) => J K 53 [(0, .ref 98), (1, .int v)] [] S) (fun k hk v S hf => by
    unfold f_X9_measure_53b at hf
    refine j_iload_n hK dX9_measure_53 1 rfl rfl ?_
    refine j_aload_n hK dX9_measure_54 0 rfl rfl ?_
    refine j_getR hK fl_X9_9 dX9_measure_55 zo_98 zf_9_0 zr_98_0 ?_
    refine j_getI hK fl_X9_22 dX9_measure_58 zo_3 zf_0_2 ?_
    refine j_icmp_ge hK 149 dX9_measure_61 (by decide) (fun hc => ?_) (fun hc => ?_)
    · replace hf := if_1 hc hf
      refine j_sub [0] rfl ?_
      exact he _ _ hf
    · replace hf := if_2 hc hf
      refine j_aload_n hK dX9_measure_64 0 rfl rfl ?_
      refine j_getR hK fl_X9_9 dX9_measure_65 zo_98 zf_9_0 zr_98_0 ?_
      refine j_iload_n hK dX9_measure_68 1 rfl rfl ?_
      obtain ⟨r14, S15, h16, hf⟩ := bd_J hf
      refine k_callVi hK (c_X0_isOpen h16) dX9_measure_69 zclX0 zo_3 ml_X9_28 mi_X0_isOpen mx_X0_isOpen in_X0 mc_X0_isOpen hy_X0_isOpen ⟨by decide, by decide⟩ rfl (Nat.le_of_ble_eq_true rfl) ?_
      refine j_if_eq hK 143 dX9_measure_72 (by decide) (fun hc => ?_) (fun hc => ?_)
      · replace hf := if_1 hc hf
        exact t_X9_measure_143 hK hA hk he hf
      · replace hf := if_2 hc hf
        refine j_aload_n hK dX9_measure_75 0 rfl rfl ?_
        refine j_aload_n hK dX9_measure_76 0 rfl rfl ?_
        refine j_getR hK fl_X9_9 dX9_measure_77 zo_98 zf_9_0 zr_98_0 ?_
        refine j_getR hK fl_X9_32 dX9_measure_80 zo_3 zf_0_0 zr_3_0 ?_
        refine j_iload_n hK dX9_measure_83 1 rfl rfl ?_
        obtain ⟨hi17, hf⟩ := gd hf
        refine k_iald hK dX9_measure_84 zb_4 hi17 rfl ?_
        refine j_aload_n hK dX9_measure_85 0 rfl rfl ?_
        refine j_pc (pc' := 86) rfl ?_
        refine j_getR hK fl_X9_9 dX9_measure_86 zo_98 zf_9_0 zr_98_0 ?_
        refine j_getR hK fl_X9_35 dX9_measure_89 zo_3 zf_0_1 zr_3_1 ?_
        refine j_iload_n hK dX9_measure_92 1 rfl rfl ?_
        obtain ⟨hi18, hf⟩ := gd hf
        refine k_iald hK dX9_measure_93 zb_5 hi18 rfl ?_
        refine j_aload_n hK dX9_measure_94 0 rfl rfl ?_
        refine j_getR hK fl_X9_9 dX9_measure_95 zo_98 zf_9_0 zr_98_0 ?_
        refine j_getR hK fl_X9_38 dX9_measure_98 zo_3 zf_0_3 zr_3_3 ?_
        refine j_getR hK fl_X9_42 dX9_measure_101 zo_6 zf_7_0 zr_6_0 ?_
        refine j_pc (pc' := 104) rfl ?_
        refine j_iload_n hK dX9_measure_104 1 rfl rfl ?_
        obtain ⟨hi19, hf⟩ := gd hf
        refine k_iald hK dX9_measure_105 zb_7 hi19 rfl ?_
        obtain ⟨r20, S21, h22, hf⟩ := bd_J hf
        refine k_callVv hK (c_X9_shorten h22) dX9_measure_106 zclX9 zo_98 ml_X9_47 mi_X9_shorten mx_X9_shorten in_X9 mc_X9_shorten hy_X9_shorten ⟨by decide, by decide⟩ rfl (Nat.le_of_ble_eq_true rfl) ?_
        refine j_aload_n hK dX9_measure_109 0 rfl rfl ?_
        refine j_aload_n hK dX9_measure_110 0 rfl rfl ?_
        refine j_getR hK fl_X9_9 dX9_measure_111 zo_98 zf_9_0 zr_98_0 ?_
        refine j_getR hK fl_X9_35 dX9_measure_114 zo_3 zf_0_1 zr_3_1 ?_
        refine j_iload_n hK dX9_measure_117 1 rfl rfl ?_
        refine j_pc (pc' := 118) rfl ?_
        obtain ⟨hi23, hf⟩ := gd hf
        refine k_iald hK dX9_measure_118 zb_5 hi23 rfl ?_
        refine j_aload_n hK dX9_measure_119 0 rfl rfl ?_
        refine j_getR hK fl_X9_9 dX9_measure_120 zo_98 zf_9_0 zr_98_0 ?_
        refine j_getR hK fl_X9_32 dX9_measure_123 zo_3 zf_0_0 zr_3_0 ?_
        refine j_iload_n hK dX9_measure_126 1 rfl rfl ?_
        obtain ⟨hi24, hf⟩ := gd hf
        refine k_iald hK dX9_measure_127 zb_4 hi24 rfl ?_
        refine j_aload_n hK dX9_measure_128 0 rfl rfl ?_
        refine j_getR hK fl_X9_9 dX9_measure_129 zo_98 zf_9_0 zr_98_0 ?_
        refine j_pc (pc' := 132) rfl ?_
        refine j_getR hK fl_X9_38 dX9_measure_132 zo_3 zf_0_3 zr_3_3 ?_
        refine j_getR hK fl_X9_42 dX9_measure_135 zo_6 zf_7_0 zr_6_0 ?_
        refine j_iload_n hK dX9_measure_138 1 rfl rfl ?_
        obtain ⟨hi25, hf⟩ := gd hf
        refine k_iald hK dX9_measure_139 zb_7 hi25 rfl ?_
        obtain ⟨r26, S27, h28, hf⟩ := bd_J hf
        refine k_callVv hK (c_X9_shorten h28) dX9_measure_140 zclX9 zo_98 ml_X9_47 mi_X9_shorten mx_X9_shorten in_X9 mc_X9_shorten hy_X9_shorten ⟨by decide, by decide⟩ rfl (Nat.le_of_ble_eq_true rfl) ?_
        exact t_X9_measure_143 hK hA hk he hf)
def f_X9_measure_38 (x1 : Int32) (x2 : Int32) (s1 : Int32) (s2 : Int32) (k e : Int32 → St → Option (Unit × St)) (S : St) : Option (Unit × St) := if inb s1 64 then lt (sI S 99 s1.toNatClampNeg s2) (fun S30 => k (x2 + (1 : Int32)) S30) else none
theorem t_X9_measure_38 {K : CT} (hK : KO K cX9_measure RX9 4 2 none) {r : Unit} {S' : St} (hA : zans K = (none, S')) {x1 : Int32} {x2 : Int32} {s1 : Int32} {s2 : Int32} {k e : Int32 → St → Option (Unit × St)} (hk : ∀ (v : Int32) (S : St), k v S = some (r, S') → J K 10 [(0, .ref 98), (1, .int x1), (2, .int v)] [] S) (he : ∀ (v : Int32) (S : St), e v S = some (r, S') → J K 45 [(0, .ref 98), (1, .int x1)] [] S) {S : St} (hf : f_X9_measure_38 x1 x2 s1 s2 k e S = some (r, S')) : J K 38 [(0, .ref 98), (1, .int x1), (2, .int x2)] [.int s2, .int s1, .ref 99] S := by
  unfold f_X9_measure_38 at hf
  obtain ⟨hi29, hf⟩ := gd hf
  refine k_iast hK dX9_measure_38 zb_99 hi29 rfl ?_
  refine lt_S hf (fun S30 hf => ?_)
  refine j_iinc hK (L' := [(2, .int (x2 + (1 : Int32))), (0, .ref 98), (1, .int x1)]) dX9_measure_39 2 rfl (congrArg (fun y => x2 + y) ic_1) (by decide) rfl ?_
  refine j_goto hK 10 dX9_measure_42 (by decide) ?_
  refine j_sub [1, 2, 0] rfl ?_
  exact hk _ _ hf
def f_X9_measure_10b (x1 : Int32) (e : Int32 → St → Option (Unit × St)) (k : Int32 → St → Option (Unit × St)) (v : Int32) (S : St) : Option (Unit × St) := (if (8 : Int32) ≤ v then e v S else (if x1 = v then f_X9_measure_38 x1 v ((x1 * (8 : Int32)) + v) (0 : Int32) k e S else f_X9_measure_38 x1 v ((x1 * (8 : Int32)) + v) (1000 : Int32) k e S))
theorem t_X9_measure_10 {K : CT} (hK : KO K cX9_measure RX9 4 2 none) {r : Unit} {S' : St} (hA : zans K = (none, S')) {x1 : Int32} {e : Int32 → St → Option (Unit × St)} (he : ∀ (v : Int32) (S : St), e v S = some (r, S') → J K 45 [(0, .ref 98), (1, .int x1)] [] S) : ∀ (n : Nat) (v : Int32) (S : St), lp (f_X9_measure_10b x1 e) n v S = some (r, S') → J K 10 [(0, .ref 98), (1, .int x1), (2, .int v)] [] S :=
  lp_J (P := fun (v : Int32) (S : St) => J K 10 [(0, .ref 98), (1, .int x1), (2, .int v)] [] S) (fun k hk v S hf => by
    unfold f_X9_measure_10b at hf
    refine j_iload_n hK dX9_measure_10 2 rfl rfl ?_
    refine j_bipush hK (8 : Int32) dX9_measure_11 bi_8 ?_
    refine j_icmp_ge hK 45 dX9_measure_13 (by decide) (fun hc => ?_) (fun hc => ?_)
    · replace hf := if_1 hc hf
      refine j_sub [0, 1] rfl ?_
      exact he _ _ hf
    · replace hf := if_2 hc hf
      refine j_aload_n hK dX9_measure_16 0 rfl rfl ?_
      refine j_getR hK fl_X9_15 dX9_measure_17 zo_98 zf_9_1 zr_98_1 ?_
      refine j_iload_n hK dX9_measure_20 1 rfl rfl ?_
      refine j_bipush hK (8 : Int32) dX9_measure_21 bi_8 ?_
      refine j_imul hK dX9_measure_23 ?_
      refine j_iload_n hK dX9_measure_24 2 rfl rfl ?_
      refine j_iadd hK dX9_measure_25 ?_
      refine j_pc (pc' := 26) rfl ?_
      refine j_iload_n hK dX9_measure_26 1 rfl rfl ?_
      refine j_iload_n hK dX9_measure_27 2 rfl rfl ?_
      refine j_icmp_ne hK 35 dX9_measure_28 (by decide) (fun hc => ?_) (fun hc => ?_)
      · replace hf := if_2 hc hf
        refine j_sipush hK (1000 : Int32) dX9_measure_35 si_1000 ?_
        exact t_X9_measure_38 hK hA hk he hf
      · replace hf := if_1 hc hf
        refine j_iconst hK (0 : Int32) dX9_measure_31 ic_0 ?_
        refine j_goto hK 38 dX9_measure_32 (by decide) ?_
        exact t_X9_measure_38 hK hA hk he hf)
def f_X9_measure_2b (e : Int32 → St → Option (Unit × St)) (k : Int32 → St → Option (Unit × St)) (v : Int32) (S : St) : Option (Unit × St) := (if (8 : Int32) ≤ v then e v S else lp (f_X9_measure_10b v (fun v31 S32 => k (v + (1 : Int32)) S32)) FU (0 : Int32) S)
theorem t_X9_measure_2 {K : CT} (hK : KO K cX9_measure RX9 4 2 none) {r : Unit} {S' : St} (hA : zans K = (none, S')) {e : Int32 → St → Option (Unit × St)} (he : ∀ (v : Int32) (S : St), e v S = some (r, S') → J K 51 [(0, .ref 98)] [] S) : ∀ (n : Nat) (v : Int32) (S : St), lp (f_X9_measure_2b  e) n v S = some (r, S') → J K 2 [(0, .ref 98), (1, .int v)] [] S :=
  lp_J (P := fun (v : Int32) (S : St) => J K 2 [(0, .ref 98), (1, .int v)] [] S) (fun k hk v S hf => by
    unfold f_X9_measure_2b at hf
    refine j_iload_n hK dX9_measure_2 1 rfl rfl ?_
    refine j_bipush hK (8 : Int32) dX9_measure_3 bi_8 ?_
    refine j_icmp_ge hK 51 dX9_measure_5 (by decide) (fun hc => ?_) (fun hc => ?_)
    · replace hf := if_1 hc hf
      refine j_sub [0] rfl ?_
      exact he _ _ hf
    · replace hf := if_2 hc hf
      refine j_iconst hK (0 : Int32) dX9_measure_8 ic_0 ?_
      refine j_istore_n hK (L' := [(2, .int (0 : Int32)), (0, .ref 98), (1, .int v)]) dX9_measure_9 rfl (by decide) rfl ?_
      refine j_sub [1, 2, 0] rfl ?_
      refine t_X9_measure_10 hK hA  (fun v31 S32 hf => ?_) _ _ _ hf
      refine j_iinc hK (L' := [(1, .int (v + (1 : Int32))), (0, .ref 98)]) dX9_measure_45 1 rfl (congrArg (fun y => v + y) ic_1) (by decide) rfl ?_
      refine j_goto hK 2 dX9_measure_48 (by decide) ?_
      refine j_sub [1, 0] rfl ?_
      exact hk _ _ hf)
def f_X9_measure (S : St) : Option (Unit × St) := lp (f_X9_measure_2b  (fun v33 S34 => lp (f_X9_measure_53b  (fun v35 S36 => lp (f_X9_measure_151b  (fun v37 S38 => some ((), S38))) FU (0 : Int32) S36)) FU (0 : Int32) S34)) FU (0 : Int32) S
theorem c_X9_measure {S : St} {r : Unit} {S' : St} (hf : f_X9_measure S = some (r, S')) : zM yX9_measure cX9_measure 4 2 none [.ref 98] S (none) S' := by
  refine zM_of (zpl (by decide)) (Nat.le_of_ble_eq_true rfl) rfl (fun K hK hA => ?_)
  unfold f_X9_measure at hf
  refine j_iconst hK (0 : Int32) dX9_measure_0 ic_0 ?_
  refine j_istore_n hK (L' := [(1, .int (0 : Int32)), (0, .ref 98)]) dX9_measure_1 rfl (by decide) rfl ?_
  refine j_sub [1, 0] rfl ?_
  refine t_X9_measure_2 hK hA  (fun v33 S34 hf => ?_) _ _ _ hf
  refine j_iconst hK (0 : Int32) dX9_measure_51 ic_0 ?_
  refine j_istore_n hK (L' := [(1, .int (0 : Int32)), (0, .ref 98)]) dX9_measure_52 rfl (by decide) rfl ?_
  refine j_sub [1, 0] rfl ?_
  refine t_X9_measure_53 hK hA  (fun v35 S36 hf => ?_) _ _ _ hf
  refine j_iconst hK (0 : Int32) dX9_measure_149 ic_0 ?_
  refine j_istore_n hK (L' := [(1, .int (0 : Int32)), (0, .ref 98)]) dX9_measure_150 rfl (by decide) rfl ?_
  refine j_sub [1, 0] rfl ?_
  refine t_X9_measure_151 hK hA  (fun v37 S38 hf => ?_) _ _ _ hf
  exact j_vret hK dX9_measure_210 rfl (rt_V hA hf)
def f_X9_joinedTo_28 (x1 : Int32) (x2 : Int32) (x3 : Int32) (k e : Int32 × Int32 → St → Option (Int32 × St)) (S : St) : Option (Int32 × St) := k (x2, (x3 + (1 : Int32))) S
theorem t_X9_joinedTo_28 {K : CT} (hK : KO K cX9_joinedTo RX9 4 2 (some .int)) {r : Int32} {S' : St} (hA : zans K = (some (.int r), S')) {x1 : Int32} {x2 : Int32} {x3 : Int32} {k e : Int32 × Int32 → St → Option (Int32 × St)} (hk : ∀ (v : Int32 × Int32) (S : St), k v S = some (r, S') → J K 4 [(0, .ref 98), (1, .int x1), (2, .int v.1), (3, .int v.2)] [] S) (he : ∀ (v : Int32 × Int32) (S : St), e v S = some (r, S') → J K 34 [(2, .int v.1)] [] S) {S : St} (hf : f_X9_joinedTo_28 x1 x2 x3 k e S = some (r, S')) : J K 28 [(0, .ref 98), (1, .int x1), (2, .int x2), (3, .int x3)] [] S := by
  unfold f_X9_joinedTo_28 at hf
  refine j_iinc hK (L' := [(3, .int (x3 + (1 : Int32))), (0, .ref 98), (1, .int x1), (2, .int x2)]) dX9_joinedTo_28 3 rfl (congrArg (fun y => x3 + y) ic_1) (by decide) rfl ?_
  refine j_goto hK 4 dX9_joinedTo_31 (by decide) ?_
  refine j_sub [1, 2, 3, 0] rfl ?_
  exact hk _ _ hf
def f_X9_joinedTo_4b (x1 : Int32) (e : Int32 × Int32 → St → Option (Int32 × St)) (k : Int32 × Int32 → St → Option (Int32 × St)) (v : Int32 × Int32) (S : St) : Option (Int32 × St) := (if (8 : Int32) ≤ v.2 then e (v.1, v.2) S else bd (f_X9_farOf x1 v.2 S) (fun r1 S2 => (if (1000 : Int32) ≤ r1 then f_X9_joinedTo_28 x1 v.1 v.2 k e S2 else lt (v.1 ||| ((1 : Int32) <<< (v.2 &&& 31))) (fun y4 => f_X9_joinedTo_28 x1 y4 v.2 k e S2))))
theorem t_X9_joinedTo_4 {K : CT} (hK : KO K cX9_joinedTo RX9 4 2 (some .int)) {r : Int32} {S' : St} (hA : zans K = (some (.int r), S')) {x1 : Int32} {e : Int32 × Int32 → St → Option (Int32 × St)} (he : ∀ (v : Int32 × Int32) (S : St), e v S = some (r, S') → J K 34 [(2, .int v.1)] [] S) : ∀ (n : Nat) (v : Int32 × Int32) (S : St), lp (f_X9_joinedTo_4b x1 e) n v S = some (r, S') → J K 4 [(0, .ref 98), (1, .int x1), (2, .int v.1), (3, .int v.2)] [] S :=
  lp_J (P := fun (v : Int32 × Int32) (S : St) => J K 4 [(0, .ref 98), (1, .int x1), (2, .int v.1), (3, .int v.2)] [] S) (fun k hk v S hf => by
    unfold f_X9_joinedTo_4b at hf
    refine j_iload_n hK dX9_joinedTo_4 3 rfl rfl ?_
    refine j_bipush hK (8 : Int32) dX9_joinedTo_5 bi_8 ?_
    refine j_icmp_ge hK 34 dX9_joinedTo_7 (by decide) (fun hc => ?_) (fun hc => ?_)
    · replace hf := if_1 hc hf
      refine j_sub [2] rfl ?_
      exact he _ _ hf
    · replace hf := if_2 hc hf
      refine j_aload_n hK dX9_joinedTo_10 0 rfl rfl ?_
      refine j_iload_n hK dX9_joinedTo_11 1 rfl rfl ?_
      refine j_iload_n hK dX9_joinedTo_12 3 rfl rfl ?_
      obtain ⟨r1, S2, h3, hf⟩ := bd_J hf
      refine k_callVi hK (c_X9_farOf h3) dX9_joinedTo_13 zclX9 zo_98 ml_X9_51 mi_X9_farOf mx_X9_farOf in_X9 mc_X9_farOf hy_X9_farOf ⟨by decide, by decide⟩ rfl (Nat.le_of_ble_eq_true rfl) ?_
      refine j_sipush hK (1000 : Int32) dX9_joinedTo_16 si_1000 ?_
      refine j_icmp_ge hK 28 dX9_joinedTo_19 (by decide) (fun hc => ?_) (fun hc => ?_)
      · replace hf := if_1 hc hf
        exact t_X9_joinedTo_28 hK hA hk he hf
      · replace hf := if_2 hc hf
        refine j_iload_n hK dX9_joinedTo_22 2 rfl rfl ?_
        refine j_iconst hK (1 : Int32) dX9_joinedTo_23 ic_1 ?_
        refine j_iload_n hK dX9_joinedTo_24 3 rfl rfl ?_
        refine j_ishl hK dX9_joinedTo_25 ?_
        refine j_ior hK dX9_joinedTo_26 ?_
        refine lt_I hf (fun y4 hf => ?_)
        refine j_istore_n hK (L' := [(2, .int y4), (0, .ref 98), (1, .int x1), (3, .int v.2)]) dX9_joinedTo_27 rfl (by decide) rfl ?_
        refine j_sub [1, 2, 0, 3] rfl ?_
        exact t_X9_joinedTo_28 hK hA hk he hf)
def f_X9_joinedTo (p1 : Int32) (S : St) : Option (Int32 × St) := lp (f_X9_joinedTo_4b p1 (fun v5 S6 => some (v5.1, S6))) FU ((0 : Int32), (0 : Int32)) S
theorem c_X9_joinedTo {p1 : Int32} {S : St} {r : Int32} {S' : St} (hf : f_X9_joinedTo p1 S = some (r, S')) : zM yX9_joinedTo cX9_joinedTo 4 2 (some .int) [.ref 98, .int p1] S (some (.int r)) S' := by
  refine zM_of (zpl (by decide)) (Nat.le_of_ble_eq_true rfl) rfl (fun K hK hA => ?_)
  unfold f_X9_joinedTo at hf
  refine j_iconst hK (0 : Int32) dX9_joinedTo_0 ic_0 ?_
  refine j_istore_n hK (L' := [(2, .int (0 : Int32)), (0, .ref 98), (1, .int p1)]) dX9_joinedTo_1 rfl (by decide) rfl ?_
  refine j_iconst hK (0 : Int32) dX9_joinedTo_2 ic_0 ?_
  refine j_istore_n hK (L' := [(3, .int (0 : Int32)), (2, .int (0 : Int32)), (0, .ref 98), (1, .int p1)]) dX9_joinedTo_3 rfl (by decide) rfl ?_
  refine j_sub [2, 3, 1, 0] rfl ?_
  refine t_X9_joinedTo_4 hK hA  (fun v5 S6 hf => ?_) _ _ _ hf
  refine j_iload_n hK dX9_joinedTo_34 0 rfl rfl ?_
  exact j_iret hK dX9_joinedTo_35 rfl (rt_I hA hf)
def f_X9_farthestOf_33 (x1 : Int32) (x2 : Int32) (x3 : Int32) (k e : Int32 × Int32 → St → Option (Int32 × St)) (S : St) : Option (Int32 × St) := k (x2, (x3 + (1 : Int32))) S
theorem t_X9_farthestOf_33 {K : CT} (hK : KO K cX9_farthestOf RX9 4 2 (some .int)) {r : Int32} {S' : St} (hA : zans K = (some (.int r), S')) {x1 : Int32} {x2 : Int32} {x3 : Int32} {k e : Int32 × Int32 → St → Option (Int32 × St)} (hk : ∀ (v : Int32 × Int32) (S : St), k v S = some (r, S') → J K 4 [(0, .ref 98), (1, .int x1), (2, .int v.1), (3, .int v.2)] [] S) (he : ∀ (v : Int32 × Int32) (S : St), e v S = some (r, S') → J K 39 [(2, .int v.1)] [] S) {S : St} (hf : f_X9_farthestOf_33 x1 x2 x3 k e S = some (r, S')) : J K 33 [(0, .ref 98), (1, .int x1), (2, .int x2), (3, .int x3)] [] S := by
  unfold f_X9_farthestOf_33 at hf
  refine j_iinc hK (L' := [(3, .int (x3 + (1 : Int32))), (0, .ref 98), (1, .int x1), (2, .int x2)]) dX9_farthestOf_33 3 rfl (congrArg (fun y => x3 + y) ic_1) (by decide) rfl ?_
  refine j_goto hK 4 dX9_farthestOf_36 (by decide) ?_
  refine j_sub [1, 2, 3, 0] rfl ?_
  exact hk _ _ hf
def f_X9_farthestOf_4b (x1 : Int32) (e : Int32 × Int32 → St → Option (Int32 × St)) (k : Int32 × Int32 → St → Option (Int32 × St)) (v : Int32 × Int32) (S : St) : Option (Int32 × St) := (if (8 : Int32) ≤ v.2 then e (v.1, v.2) S else bd (f_X9_farOf x1 v.2 S) (fun r1 S2 => (if (1000 : Int32) ≤ r1 then f_X9_farthestOf_33 x1 v.1 v.2 k e S2 else bd (f_X9_farOf x1 v.2 S2) (fun r4 S5 => lt (mxI v.1 r4) (fun y7 => f_X9_farthestOf_33 x1 y7 v.2 k e S5)))))
theorem t_X9_farthestOf_4 {K : CT} (hK : KO K cX9_farthestOf RX9 4 2 (some .int)) {r : Int32} {S' : St} (hA : zans K = (some (.int r), S')) {x1 : Int32} {e : Int32 × Int32 → St → Option (Int32 × St)} (he : ∀ (v : Int32 × Int32) (S : St), e v S = some (r, S') → J K 39 [(2, .int v.1)] [] S) : ∀ (n : Nat) (v : Int32 × Int32) (S : St), lp (f_X9_farthestOf_4b x1 e) n v S = some (r, S') → J K 4 [(0, .ref 98), (1, .int x1), (2, .int v.1), (3, .int v.2)] [] S :=
  lp_J (P := fun (v : Int32 × Int32) (S : St) => J K 4 [(0, .ref 98), (1, .int x1), (2, .int v.1), (3, .int v.2)] [] S) (fun k hk v S hf => by
    unfold f_X9_farthestOf_4b at hf
    refine j_iload_n hK dX9_farthestOf_4 3 rfl rfl ?_
    refine j_bipush hK (8 : Int32) dX9_farthestOf_5 bi_8 ?_
    refine j_icmp_ge hK 39 dX9_farthestOf_7 (by decide) (fun hc => ?_) (fun hc => ?_)
    · replace hf := if_1 hc hf
      refine j_sub [2] rfl ?_
      exact he _ _ hf
    · replace hf := if_2 hc hf
      refine j_aload_n hK dX9_farthestOf_10 0 rfl rfl ?_
      refine j_iload_n hK dX9_farthestOf_11 1 rfl rfl ?_
      refine j_iload_n hK dX9_farthestOf_12 3 rfl rfl ?_
      obtain ⟨r1, S2, h3, hf⟩ := bd_J hf
      refine k_callVi hK (c_X9_farOf h3) dX9_farthestOf_13 zclX9 zo_98 ml_X9_51 mi_X9_farOf mx_X9_farOf in_X9 mc_X9_farOf hy_X9_farOf ⟨by decide, by decide⟩ rfl (Nat.le_of_ble_eq_true rfl) ?_
      refine j_sipush hK (1000 : Int32) dX9_farthestOf_16 si_1000 ?_
      refine j_icmp_ge hK 33 dX9_farthestOf_19 (by decide) (fun hc => ?_) (fun hc => ?_)
      · replace hf := if_1 hc hf
        exact t_X9_farthestOf_33 hK hA hk he hf
      · replace hf := if_2 hc hf
        refine j_iload_n hK dX9_farthestOf_22 2 rfl rfl ?_
        refine j_aload_n hK dX9_farthestOf_23 0 rfl rfl ?_
        refine j_iload_n hK dX9_farthestOf_24 1 rfl rfl ?_
        refine j_iload_n hK dX9_farthestOf_25 3 rfl rfl ?_
        obtain ⟨r4, S5, h6, hf⟩ := bd_J hf
        refine k_callVi hK (c_X9_farOf h6) dX9_farthestOf_26 zclX9 zo_98 ml_X9_51 mi_X9_farOf mx_X9_farOf in_X9 mc_X9_farOf hy_X9_farOf ⟨by decide, by decide⟩ rfl (Nat.le_of_ble_eq_true rfl) ?_
        refine j_max hK ml_X9_60 dX9_farthestOf_29 (by decide) (Nat.le_of_ble_eq_true rfl) ?_
        refine lt_I hf (fun y7 hf => ?_)
        refine j_istore_n hK (L' := [(2, .int y7), (0, .ref 98), (1, .int x1), (3, .int v.2)]) dX9_farthestOf_32 rfl (by decide) rfl ?_
        refine j_sub [1, 2, 0, 3] rfl ?_
        exact t_X9_farthestOf_33 hK hA hk he hf)
def f_X9_farthestOf (p1 : Int32) (S : St) : Option (Int32 × St) := lp (f_X9_farthestOf_4b p1 (fun v8 S9 => some (v8.1, S9))) FU ((0 : Int32), (0 : Int32)) S
theorem c_X9_farthestOf {p1 : Int32} {S : St} {r : Int32} {S' : St} (hf : f_X9_farthestOf p1 S = some (r, S')) : zM yX9_farthestOf cX9_farthestOf 4 2 (some .int) [.ref 98, .int p1] S (some (.int r)) S' := by
  refine zM_of (zpl (by decide)) (Nat.le_of_ble_eq_true rfl) rfl (fun K hK hA => ?_)
  unfold f_X9_farthestOf at hf
  refine j_iconst hK (0 : Int32) dX9_farthestOf_0 ic_0 ?_
  refine j_istore_n hK (L' := [(2, .int (0 : Int32)), (0, .ref 98), (1, .int p1)]) dX9_farthestOf_1 rfl (by decide) rfl ?_
  refine j_iconst hK (0 : Int32) dX9_farthestOf_2 ic_0 ?_
  refine j_istore_n hK (L' := [(3, .int (0 : Int32)), (2, .int (0 : Int32)), (0, .ref 98), (1, .int p1)]) dX9_farthestOf_3 rfl (by decide) rfl ?_
  refine j_sub [2, 3, 1, 0] rfl ?_
  refine t_X9_farthestOf_4 hK hA  (fun v8 S9 hf => ?_) _ _ _ hf
  refine j_iload_n hK dX9_farthestOf_39 0 rfl rfl ?_
  exact j_iret hK dX9_farthestOf_40 rfl (rt_I hA hf)
def f_X10_wearToldBy_20 (s0 : Int32) (S : St) : Option (Int32 × St) := some ((mxI (0 : Int32) (mnI (9 : Int32) s0)), S)
theorem t_X10_wearToldBy_20 {K : CT} (hK : KO K cX10_wearToldBy RX10 3 1 (some .int)) {r : Int32} {S' : St} (hA : zans K = (some (.int r), S')) {s0 : Int32} {S : St} (hf : f_X10_wearToldBy_20 s0 S = some (r, S')) : J K 20 [] [.int s0] S := by
  unfold f_X10_wearToldBy_20 at hf
  refine j_istore_n hK (L' := [(2, .int s0)]) dX10_wearToldBy_20 rfl (by decide) rfl ?_
  refine j_iconst hK (0 : Int32) dX10_wearToldBy_21 ic_0 ?_
  refine j_bipush hK (9 : Int32) dX10_wearToldBy_22 bi_9 ?_
  refine j_iload_n hK dX10_wearToldBy_24 0 rfl rfl ?_
  refine j_min hK ml_X10_170 dX10_wearToldBy_25 (by decide) (Nat.le_of_ble_eq_true rfl) ?_
  refine j_max hK ml_X10_175 dX10_wearToldBy_28 (by decide) (Nat.le_of_ble_eq_true rfl) ?_
  exact j_iret hK dX10_wearToldBy_31 rfl (rt_I hA hf)
def f_X10_wearToldBy (p0 : Int32) (p1 : Int32) (S : St) : Option (Int32 × St) := (if p0 = 0 then f_X10_wearToldBy_20 (p1).toInt8.toInt32 S else (if p0 = (1 : Int32) then f_X10_wearToldBy_20 (p1).toInt16.toInt32 S else f_X10_wearToldBy_20 p1 S))
theorem c_X10_wearToldBy {p0 : Int32} {p1 : Int32} {S : St} {r : Int32} {S' : St} (hf : f_X10_wearToldBy p0 p1 S = some (r, S')) : zM yX10_wearToldBy cX10_wearToldBy 3 1 (some .int) [.int p0, .int p1] S (some (.int r)) S' := by
  refine zM_of (zpl (by decide)) (Nat.le_of_ble_eq_true rfl) rfl (fun K hK hA => ?_)
  unfold f_X10_wearToldBy at hf
  refine j_iload_n hK dX10_wearToldBy_0 0 rfl rfl ?_
  refine j_if_ne hK 9 dX10_wearToldBy_1 (by decide) (fun hc => ?_) (fun hc => ?_)
  · replace hf := if_2 hc hf
    refine j_iload_n hK dX10_wearToldBy_9 0 rfl rfl ?_
    refine j_iconst hK (1 : Int32) dX10_wearToldBy_10 ic_1 ?_
    refine j_icmp_ne hK 19 dX10_wearToldBy_11 (by decide) (fun hc => ?_) (fun hc => ?_)
    · replace hf := if_2 hc hf
      refine j_iload_n hK dX10_wearToldBy_19 1 rfl rfl ?_
      refine j_sub [] rfl ?_
      exact t_X10_wearToldBy_20 hK hA  hf
    · replace hf := if_1 hc hf
      refine j_iload_n hK dX10_wearToldBy_14 1 rfl rfl ?_
      refine j_i2s hK dX10_wearToldBy_15 ?_
      refine j_goto hK 20 dX10_wearToldBy_16 (by decide) ?_
      refine j_sub [] rfl ?_
      exact t_X10_wearToldBy_20 hK hA  hf
  · replace hf := if_1 hc hf
    refine j_iload_n hK dX10_wearToldBy_4 1 rfl rfl ?_
    refine j_i2b hK dX10_wearToldBy_5 ?_
    refine j_goto hK 20 dX10_wearToldBy_6 (by decide) ?_
    refine j_sub [] rfl ?_
    exact t_X10_wearToldBy_20 hK hA  hf
def f_X0_wearOfAll_4b (e : Int32 × Int32 → St → Option (Int32 × St)) (k : Int32 × Int32 → St → Option (Int32 × St)) (v : Int32 × Int32) (S : St) : Option (Int32 × St) := (if (gI S 3 2) ≤ v.2 then e (v.1, v.2) S else if inb v.2 12 then lt (v.1 + (gI S 9 v.2.toNatClampNeg)) (fun y2 => k (y2, (v.2 + (1 : Int32))) S) else none)
theorem t_X0_wearOfAll_4 {K : CT} (hK : KO K cX0_wearOfAll RX0 3 1 (some .int)) {r : Int32} {S' : St} (hA : zans K = (some (.int r), S')) {e : Int32 × Int32 → St → Option (Int32 × St)} (he : ∀ (v : Int32 × Int32) (S : St), e v S = some (r, S') → J K 30 [(1, .int v.1)] [] S) : ∀ (n : Nat) (v : Int32 × Int32) (S : St), lp (f_X0_wearOfAll_4b  e) n v S = some (r, S') → J K 4 [(0, .ref 3), (1, .int v.1), (2, .int v.2)] [] S :=
  lp_J (P := fun (v : Int32 × Int32) (S : St) => J K 4 [(0, .ref 3), (1, .int v.1), (2, .int v.2)] [] S) (fun k hk v S hf => by
    unfold f_X0_wearOfAll_4b at hf
    refine j_iload_n hK dX0_wearOfAll_4 2 rfl rfl ?_
    refine j_aload_n hK dX0_wearOfAll_5 0 rfl rfl ?_
    refine j_getI hK fl_X0_18 dX0_wearOfAll_6 zo_3 zf_0_2 ?_
    refine j_icmp_ge hK 30 dX0_wearOfAll_9 (by decide) (fun hc => ?_) (fun hc => ?_)
    · replace hf := if_1 hc hf
      refine j_sub [1] rfl ?_
      exact he _ _ hf
    · replace hf := if_2 hc hf
      refine j_iload_n hK dX0_wearOfAll_12 1 rfl rfl ?_
      refine j_aload_n hK dX0_wearOfAll_13 0 rfl rfl ?_
      refine j_getR hK fl_X0_25 dX0_wearOfAll_14 zo_3 zf_0_3 zr_3_3 ?_
      refine j_getR hK fl_X0_35 dX0_wearOfAll_17 zo_6 zf_7_2 zr_6_2 ?_
      refine j_iload_n hK dX0_wearOfAll_20 2 rfl rfl ?_
      obtain ⟨hi1, hf⟩ := gd hf
      refine k_iald hK dX0_wearOfAll_21 zb_9 hi1 rfl ?_
      refine j_iadd hK dX0_wearOfAll_22 ?_
      refine j_pc (pc' := 23) rfl ?_
      refine lt_I hf (fun y2 hf => ?_)
      refine j_istore_n hK (L' := [(1, .int y2), (0, .ref 3), (2, .int v.2)]) dX0_wearOfAll_23 rfl (by decide) rfl ?_
      refine j_iinc hK (L' := [(2, .int (v.2 + (1 : Int32))), (1, .int y2), (0, .ref 3)]) dX0_wearOfAll_24 2 rfl (congrArg (fun y => v.2 + y) ic_1) (by decide) rfl ?_
      refine j_goto hK 4 dX0_wearOfAll_27 (by decide) ?_
      refine j_sub [2, 1, 0] rfl ?_
      exact hk _ _ hf)
def f_X0_wearOfAll (S : St) : Option (Int32 × St) := lp (f_X0_wearOfAll_4b  (fun v3 S4 => some (v3.1, S4))) FU ((0 : Int32), (0 : Int32)) S
theorem c_X0_wearOfAll {S : St} {r : Int32} {S' : St} (hf : f_X0_wearOfAll S = some (r, S')) : zM yX0_wearOfAll cX0_wearOfAll 3 1 (some .int) [.ref 3] S (some (.int r)) S' := by
  refine zM_of (zpl (by decide)) (Nat.le_of_ble_eq_true rfl) rfl (fun K hK hA => ?_)
  unfold f_X0_wearOfAll at hf
  refine j_iconst hK (0 : Int32) dX0_wearOfAll_0 ic_0 ?_
  refine j_istore_n hK (L' := [(1, .int (0 : Int32)), (0, .ref 3)]) dX0_wearOfAll_1 rfl (by decide) rfl ?_
  refine j_iconst hK (0 : Int32) dX0_wearOfAll_2 ic_0 ?_
  refine j_istore_n hK (L' := [(2, .int (0 : Int32)), (1, .int (0 : Int32)), (0, .ref 3)]) dX0_wearOfAll_3 rfl (by decide) rfl ?_
  refine j_sub [2, 1, 0] rfl ?_
  refine t_X0_wearOfAll_4 hK hA  (fun v3 S4 hf => ?_) _ _ _ hf
  refine j_iload_n hK dX0_wearOfAll_30 0 rfl rfl ?_
  exact j_iret hK dX0_wearOfAll_31 rfl (rt_I hA hf)
def f_X10_sheet_80 (x1 : Int32) (x2 : Int32) (x4 : Int32) (x5 : Int32) (x6 : Int32) (s1 : Int32) (s2 : Int32) (k e : Int32 × Int32 → St → Option (Int32 × St)) (S : St) : Option (Int32 × St) := if inb s1 12 then lt (sI S 9 s1.toNatClampNeg s2) (fun S2 => lt (x5 + x4) (fun y3 => k (y3, (x6 + (1 : Int32))) S2)) else none
theorem t_X10_sheet_80 {K : CT} (hK : KO K cX10_sheet RX10 7 2 (some .int)) {r : Int32} {S' : St} (hA : zans K = (some (.int r), S')) {x1 : Int32} {x2 : Int32} {x4 : Int32} {x5 : Int32} {x6 : Int32} {s1 : Int32} {s2 : Int32} {k e : Int32 × Int32 → St → Option (Int32 × St)} (hk : ∀ (v : Int32 × Int32) (S : St), k v S = some (r, S') → J K 35 [(0, .ref 0), (1, .int x1), (2, .int x2), (4, .int x4), (5, .int v.1), (6, .int v.2)] [] S) (he : ∀ (v : Int32 × Int32) (S : St), e v S = some (r, S') → J K 94 [(0, .ref 0), (1, .int x1)] [] S) {S : St} (hf : f_X10_sheet_80 x1 x2 x4 x5 x6 s1 s2 k e S = some (r, S')) : J K 80 [(0, .ref 0), (1, .int x1), (2, .int x2), (4, .int x4), (5, .int x5), (6, .int x6)] [.int s2, .int s1, .ref 9] S := by
  unfold f_X10_sheet_80 at hf
  obtain ⟨hi1, hf⟩ := gd hf
  refine k_iast hK dX10_sheet_80 zb_9 hi1 rfl ?_
  refine lt_S hf (fun S2 hf => ?_)
  refine j_iload hK dX10_sheet_81 4 rfl ?_
  refine j_iload hK dX10_sheet_83 3 rfl ?_
  refine j_iadd hK dX10_sheet_85 ?_
  refine lt_I hf (fun y3 hf => ?_)
  refine j_istore hK (L' := [(5, .int y3), (0, .ref 0), (1, .int x1), (2, .int x2), (4, .int x4), (6, .int x6)]) dX10_sheet_86 (by decide) rfl ?_
  refine j_iinc hK (L' := [(6, .int (x6 + (1 : Int32))), (5, .int y3), (0, .ref 0), (1, .int x1), (2, .int x2), (4, .int x4)]) dX10_sheet_88 5 rfl (congrArg (fun y => x6 + y) ic_1) (by decide) rfl ?_
  refine j_goto hK 35 dX10_sheet_91 (by decide) ?_
  refine j_sub [2, 3, 4, 5, 1, 0] rfl ?_
  exact hk _ _ hf
def f_X10_sheet_70 (x1 : Int32) (x2 : Int32) (x4 : Int32) (x5 : Int32) (x6 : Int32) (s1 : Int32) (k e : Int32 × Int32 → St → Option (Int32 × St)) (S : St) : Option (Int32 × St) := f_X10_sheet_80 x1 x2 x4 x5 x6 s1 (0 : Int32) k e S
theorem t_X10_sheet_70 {K : CT} (hK : KO K cX10_sheet RX10 7 2 (some .int)) {r : Int32} {S' : St} (hA : zans K = (some (.int r), S')) {x1 : Int32} {x2 : Int32} {x4 : Int32} {x5 : Int32} {x6 : Int32} {s1 : Int32} {k e : Int32 × Int32 → St → Option (Int32 × St)} (hk : ∀ (v : Int32 × Int32) (S : St), k v S = some (r, S') → J K 35 [(0, .ref 0), (1, .int x1), (2, .int x2), (4, .int x4), (5, .int v.1), (6, .int v.2)] [] S) (he : ∀ (v : Int32 × Int32) (S : St), e v S = some (r, S') → J K 94 [(0, .ref 0), (1, .int x1)] [] S) {S : St} (hf : f_X10_sheet_70 x1 x2 x4 x5 x6 s1 k e S = some (r, S')) : J K 70 [(0, .ref 0), (1, .int x1), (2, .int x2), (4, .int x4), (5, .int x5), (6, .int x6)] [.int s1, .ref 9] S := by
  unfold f_X10_sheet_70 at hf
  refine j_iconst hK (0 : Int32) dX10_sheet_70 ic_0 ?_
  refine j_goto hK 80 dX10_sheet_71 (by decide) ?_
  exact t_X10_sheet_80 hK hA hk he hf
def f_X10_sheet_35b (x1 : Int32) (x2 : Int32) (x4 : Int32) (e : Int32 × Int32 → St → Option (Int32 × St)) (k : Int32 × Int32 → St → Option (Int32 × St)) (v : Int32 × Int32) (S : St) : Option (Int32 × St) := (if (gI S 3 2) ≤ v.2 then e (v.1, v.2) S else (if x1 = (3 : Int32) then f_X10_sheet_70 x1 x2 x4 v.1 v.2 v.2 k e S else (if v.2 < x2 then bd (f_X10_wearToldBy x1 v.1 S) (fun r4 S5 => f_X10_sheet_80 x1 x2 x4 v.1 v.2 v.2 r4 k e S5) else f_X10_sheet_70 x1 x2 x4 v.1 v.2 v.2 k e S)))
theorem t_X10_sheet_35 {K : CT} (hK : KO K cX10_sheet RX10 7 2 (some .int)) {r : Int32} {S' : St} (hA : zans K = (some (.int r), S')) {x1 : Int32} {x2 : Int32} {x4 : Int32} {e : Int32 × Int32 → St → Option (Int32 × St)} (he : ∀ (v : Int32 × Int32) (S : St), e v S = some (r, S') → J K 94 [(0, .ref 0), (1, .int x1)] [] S) : ∀ (n : Nat) (v : Int32 × Int32) (S : St), lp (f_X10_sheet_35b x1 x2 x4 e) n v S = some (r, S') → J K 35 [(0, .ref 0), (1, .int x1), (2, .int x2), (4, .int x4), (5, .int v.1), (6, .int v.2)] [] S :=
  lp_J (P := fun (v : Int32 × Int32) (S : St) => J K 35 [(0, .ref 0), (1, .int x1), (2, .int x2), (4, .int x4), (5, .int v.1), (6, .int v.2)] [] S) (fun k hk v S hf => by
    unfold f_X10_sheet_35b at hf
    refine j_iload hK dX10_sheet_35 5 rfl ?_
    refine j_aload_n hK dX10_sheet_37 0 rfl rfl ?_
    refine j_getR hK fl_X10_19 dX10_sheet_38 zo_0 zf_10_1 zr_0_1 ?_
    refine j_getI hK fl_X10_95 dX10_sheet_41 zo_3 zf_0_2 ?_
    refine j_icmp_ge hK 94 dX10_sheet_44 (by decide) (fun hc => ?_) (fun hc => ?_)
    · replace hf := if_1 hc hf
      refine j_sub [0, 1] rfl ?_
      exact he _ _ hf
    · replace hf := if_2 hc hf
      refine j_aload_n hK dX10_sheet_47 0 rfl rfl ?_
      refine j_getR hK fl_X10_19 dX10_sheet_48 zo_0 zf_10_1 zr_0_1 ?_
      refine j_getR hK fl_X10_129 dX10_sheet_51 zo_3 zf_0_3 zr_3_3 ?_
      refine j_getR hK fl_X10_141 dX10_sheet_54 zo_6 zf_7_2 zr_6_2 ?_
      refine j_iload hK dX10_sheet_57 5 rfl ?_
      refine j_iload_n hK dX10_sheet_59 1 rfl rfl ?_
      refine j_iconst hK (3 : Int32) dX10_sheet_60 ic_3 ?_
      refine j_pc (pc' := 61) rfl ?_
      refine j_icmp_eq hK 70 dX10_sheet_61 (by decide) (fun hc => ?_) (fun hc => ?_)
      · replace hf := if_1 hc hf
        exact t_X10_sheet_70 hK hA hk he hf
      · replace hf := if_2 hc hf
        refine j_iload hK dX10_sheet_64 5 rfl ?_
        refine j_iload_n hK dX10_sheet_66 2 rfl rfl ?_
        refine j_icmp_lt hK 74 dX10_sheet_67 (by decide) (fun hc => ?_) (fun hc => ?_)
        · replace hf := if_1 hc hf
          refine j_iload_n hK dX10_sheet_74 1 rfl rfl ?_
          refine j_iload hK dX10_sheet_75 4 rfl ?_
          obtain ⟨r4, S5, h6, hf⟩ := bd_J hf
          refine k_callSi hK (c_X10_wearToldBy h6) dX10_sheet_77 ml_X10_162 ms_X10_wearToldBy in_X10 mc_X10_wearToldBy hy_X10_wearToldBy ⟨by decide, by decide⟩ rfl (Nat.le_of_ble_eq_true rfl) ?_
          exact t_X10_sheet_80 hK hA hk he hf
        · replace hf := if_2 hc hf
          exact t_X10_sheet_70 hK hA hk he hf)
def f_X10_sheet_29 (x1 : Int32) (x2 : Int32) (x3 : Int32) (x4 : Int32) (S : St) : Option (Int32 × St) := lp (f_X10_sheet_35b x1 x2 x4 (fun v7 S8 => (if x1 = (3 : Int32) then some ((-3 : Int32), S8) else bd (f_X0_wearOfAll S8) (fun r9 S10 => some (r9, S10))))) FU (x3, (0 : Int32)) S
theorem t_X10_sheet_29 {K : CT} (hK : KO K cX10_sheet RX10 7 2 (some .int)) {r : Int32} {S' : St} (hA : zans K = (some (.int r), S')) {x1 : Int32} {x2 : Int32} {x3 : Int32} {x4 : Int32} {S : St} (hf : f_X10_sheet_29 x1 x2 x3 x4 S = some (r, S')) : J K 29 [(0, .ref 0), (1, .int x1), (2, .int x2), (3, .int x3), (4, .int x4)] [] S := by
  unfold f_X10_sheet_29 at hf
  refine j_iload_n hK dX10_sheet_29 3 rfl rfl ?_
  refine j_istore hK (L' := [(5, .int x3), (0, .ref 0), (1, .int x1), (2, .int x2), (3, .int x3), (4, .int x4)]) dX10_sheet_30 (by decide) rfl ?_
  refine j_iconst hK (0 : Int32) dX10_sheet_32 ic_0 ?_
  refine j_istore hK (L' := [(6, .int (0 : Int32)), (5, .int x3), (0, .ref 0), (1, .int x1), (2, .int x2), (3, .int x3), (4, .int x4)]) dX10_sheet_33 (by decide) rfl ?_
  refine j_sub [2, 3, 4, 6, 1, 0] rfl ?_
  refine t_X10_sheet_35 hK hA  (fun v7 S8 hf => ?_) _ _ _ hf
  refine j_iload_n hK dX10_sheet_94 1 rfl rfl ?_
  refine j_iconst hK (3 : Int32) dX10_sheet_95 ic_3 ?_
  refine j_icmp_ne hK 104 dX10_sheet_96 (by decide) (fun hc => ?_) (fun hc => ?_)
  · replace hf := if_2 hc hf
    refine j_aload_n hK dX10_sheet_104 0 rfl rfl ?_
    refine j_getR hK fl_X10_19 dX10_sheet_105 zo_0 zf_10_1 zr_0_1 ?_
    obtain ⟨r9, S10, h11, hf⟩ := bd_J hf
    refine k_callVi hK (c_X0_wearOfAll h11) dX10_sheet_108 zclX0 zo_3 ml_X10_166 mi_X0_wearOfAll mx_X0_wearOfAll in_X0 mc_X0_wearOfAll hy_X0_wearOfAll ⟨by decide, by decide⟩ rfl (Nat.le_of_ble_eq_true rfl) ?_
    exact j_iret hK dX10_sheet_111 rfl (rt_I hA hf)
  · replace hf := if_1 hc hf
    refine j_bipush hK (-3 : Int32) dX10_sheet_99 bi_m3 ?_
    refine j_goto hK 111 dX10_sheet_101 (by decide) ?_
    exact j_iret hK dX10_sheet_111 rfl (rt_I hA hf)
def f_X10_sheet (p1 : Int32) (p2 : Int32) (p3 : Int32) (p4 : Int32) (S : St) : Option (Int32 × St) := (if p1 < 0 then some ((-1 : Int32), S) else (if (3 : Int32) < p1 then some ((-1 : Int32), S) else (if p2 ≤ (12 : Int32) then (if p1 = (3 : Int32) then f_X10_sheet_29 p1 p2 p3 p4 S else (if 0 ≤ p2 then f_X10_sheet_29 p1 p2 p3 p4 S else some ((-2 : Int32), S))) else some ((-1 : Int32), S))))
theorem c_X10_sheet {p1 : Int32} {p2 : Int32} {p3 : Int32} {p4 : Int32} {S : St} {r : Int32} {S' : St} (hf : f_X10_sheet p1 p2 p3 p4 S = some (r, S')) : zM yX10_sheet cX10_sheet 7 2 (some .int) [.ref 0, .int p1, .int p2, .int p3, .int p4] S (some (.int r)) S' := by
  refine zM_of (zpl (by decide)) (Nat.le_of_ble_eq_true rfl) rfl (fun K hK hA => ?_)
  unfold f_X10_sheet at hf
  refine j_iload_n hK dX10_sheet_0 1 rfl rfl ?_
  refine j_if_lt hK 15 dX10_sheet_1 (by decide) (fun hc => ?_) (fun hc => ?_)
  · replace hf := if_1 hc hf
    refine j_iconst hK (-1 : Int32) dX10_sheet_15 ic_m1 ?_
    exact j_iret hK dX10_sheet_16 rfl (rt_I hA hf)
  · replace hf := if_2 hc hf
    refine j_iload_n hK dX10_sheet_4 1 rfl rfl ?_
    refine j_iconst hK (3 : Int32) dX10_sheet_5 ic_3 ?_
    refine j_icmp_gt hK 15 dX10_sheet_6 (by decide) (fun hc => ?_) (fun hc => ?_)
    · replace hf := if_1 hc hf
      refine j_iconst hK (-1 : Int32) dX10_sheet_15 ic_m1 ?_
      exact j_iret hK dX10_sheet_16 rfl (rt_I hA hf)
    · replace hf := if_2 hc hf
      refine j_iload_n hK dX10_sheet_9 2 rfl rfl ?_
      refine j_bipush hK (12 : Int32) dX10_sheet_10 bi_12 ?_
      refine j_icmp_le hK 17 dX10_sheet_12 (by decide) (fun hc => ?_) (fun hc => ?_)
      · replace hf := if_1 hc hf
        refine j_iload_n hK dX10_sheet_17 1 rfl rfl ?_
        refine j_iconst hK (3 : Int32) dX10_sheet_18 ic_3 ?_
        refine j_icmp_eq hK 29 dX10_sheet_19 (by decide) (fun hc => ?_) (fun hc => ?_)
        · replace hf := if_1 hc hf
          exact t_X10_sheet_29 hK hA  hf
        · replace hf := if_2 hc hf
          refine j_iload_n hK dX10_sheet_22 2 rfl rfl ?_
          refine j_if_ge hK 29 dX10_sheet_23 (by decide) (fun hc => ?_) (fun hc => ?_)
          · replace hf := if_1 hc hf
            exact t_X10_sheet_29 hK hA  hf
          · replace hf := if_2 hc hf
            refine j_bipush hK (-2 : Int32) dX10_sheet_26 bi_m2 ?_
            exact j_iret hK dX10_sheet_28 rfl (rt_I hA hf)
      · replace hf := if_2 hc hf
        refine j_iconst hK (-1 : Int32) dX10_sheet_15 ic_m1 ?_
        exact j_iret hK dX10_sheet_16 rfl (rt_I hA hf)
def f_X0_acrossFrom (p1 : Int32) (p2 : Int32) (S : St) : Option (Int32 × St) := if inb p2 12 then (if (gI S 4 p2.toNatClampNeg) = p1 then if inb p2 12 then some ((gI S 5 p2.toNatClampNeg), S) else none else if inb p2 12 then some ((gI S 4 p2.toNatClampNeg), S) else none) else none
theorem c_X0_acrossFrom {p1 : Int32} {p2 : Int32} {S : St} {r : Int32} {S' : St} (hf : f_X0_acrossFrom p1 p2 S = some (r, S')) : zM yX0_acrossFrom cX0_acrossFrom 3 1 (some .int) [.ref 3, .int p1, .int p2] S (some (.int r)) S' := by
  refine zM_of (zpl (by decide)) (Nat.le_of_ble_eq_true rfl) rfl (fun K hK hA => ?_)
  unfold f_X0_acrossFrom at hf
  refine j_aload_n hK dX0_acrossFrom_0 0 rfl rfl ?_
  refine j_getR hK fl_X0_9 dX0_acrossFrom_1 zo_3 zf_0_0 zr_3_0 ?_
  refine j_iload_n hK dX0_acrossFrom_4 2 rfl rfl ?_
  obtain ⟨hi1, hf⟩ := gd hf
  refine k_iald hK dX0_acrossFrom_5 zb_4 hi1 rfl ?_
  refine j_iload_n hK dX0_acrossFrom_6 1 rfl rfl ?_
  refine j_icmp_ne hK 19 dX0_acrossFrom_7 (by decide) (fun hc => ?_) (fun hc => ?_)
  · replace hf := if_2 hc hf
    refine j_aload_n hK dX0_acrossFrom_19 0 rfl rfl ?_
    refine j_getR hK fl_X0_9 dX0_acrossFrom_20 zo_3 zf_0_0 zr_3_0 ?_
    refine j_iload_n hK dX0_acrossFrom_23 2 rfl rfl ?_
    obtain ⟨hi2, hf⟩ := gd hf
    refine k_iald hK dX0_acrossFrom_24 zb_4 hi2 rfl ?_
    exact j_iret hK dX0_acrossFrom_25 rfl (rt_I hA hf)
  · replace hf := if_1 hc hf
    refine j_aload_n hK dX0_acrossFrom_10 0 rfl rfl ?_
    refine j_getR hK fl_X0_15 dX0_acrossFrom_11 zo_3 zf_0_1 zr_3_1 ?_
    refine j_iload_n hK dX0_acrossFrom_14 2 rfl rfl ?_
    obtain ⟨hi3, hf⟩ := gd hf
    refine k_iald hK dX0_acrossFrom_15 zb_5 hi3 rfl ?_
    refine j_goto hK 25 dX0_acrossFrom_16 (by decide) ?_
    exact j_iret hK dX0_acrossFrom_25 rfl (rt_I hA hf)
def f_J6_numberOfTrailingZeros_0f7a4_74 (x0 : Int32) (x1 : Int32) (S : St) : Option (Int32 × St) := some ((x1 + (ushr x0 (1 : Int32))), S)
theorem t_J6_numberOfTrailingZeros_0f7a4_74 {K : CT} (hK : KO K cJ6_numberOfTrailingZeros_0f7a4 RJ6 2 1 (some .int)) {r : Int32} {S' : St} (hA : zans K = (some (.int r), S')) {x0 : Int32} {x1 : Int32} {S : St} (hf : f_J6_numberOfTrailingZeros_0f7a4_74 x0 x1 S = some (r, S')) : J K 74 [(0, .int x0), (1, .int x1)] [] S := by
  unfold f_J6_numberOfTrailingZeros_0f7a4_74 at hf
  refine j_iload_n hK dJ6_numberOfTrailingZeros_0f7a4_74 1 rfl rfl ?_
  refine j_iload_n hK dJ6_numberOfTrailingZeros_0f7a4_75 0 rfl rfl ?_
  refine j_iconst hK (1 : Int32) dJ6_numberOfTrailingZeros_0f7a4_76 ic_1 ?_
  refine j_iushr hK dJ6_numberOfTrailingZeros_0f7a4_77 ?_
  refine j_iadd hK dJ6_numberOfTrailingZeros_0f7a4_78 ?_
  exact j_iret hK dJ6_numberOfTrailingZeros_0f7a4_79 rfl (rt_I hA hf)
def f_J6_numberOfTrailingZeros_0f7a4_62 (x0 : Int32) (x1 : Int32) (S : St) : Option (Int32 × St) := (if x0 ≤ (4 : Int32) then f_J6_numberOfTrailingZeros_0f7a4_74 x0 x1 S else lt (ushr x0 (2 : Int32)) (fun y1 => f_J6_numberOfTrailingZeros_0f7a4_74 y1 (x1 + (2 : Int32)) S))
theorem t_J6_numberOfTrailingZeros_0f7a4_62 {K : CT} (hK : KO K cJ6_numberOfTrailingZeros_0f7a4 RJ6 2 1 (some .int)) {r : Int32} {S' : St} (hA : zans K = (some (.int r), S')) {x0 : Int32} {x1 : Int32} {S : St} (hf : f_J6_numberOfTrailingZeros_0f7a4_62 x0 x1 S = some (r, S')) : J K 62 [(0, .int x0), (1, .int x1)] [] S := by
  unfold f_J6_numberOfTrailingZeros_0f7a4_62 at hf
  refine j_iload_n hK dJ6_numberOfTrailingZeros_0f7a4_62 0 rfl rfl ?_
  refine j_iconst hK (4 : Int32) dJ6_numberOfTrailingZeros_0f7a4_63 ic_4 ?_
  refine j_icmp_le hK 74 dJ6_numberOfTrailingZeros_0f7a4_64 (by decide) (fun hc => ?_) (fun hc => ?_)
  · replace hf := if_1 hc hf
    exact t_J6_numberOfTrailingZeros_0f7a4_74 hK hA  hf
  · replace hf := if_2 hc hf
    refine j_iinc hK (L' := [(1, .int (x1 + (2 : Int32))), (0, .int x0)]) dJ6_numberOfTrailingZeros_0f7a4_67 1 rfl (congrArg (fun y => x1 + y) ic_2) (by decide) rfl ?_
    refine j_iload_n hK dJ6_numberOfTrailingZeros_0f7a4_70 1 rfl rfl ?_
    refine j_iconst hK (2 : Int32) dJ6_numberOfTrailingZeros_0f7a4_71 ic_2 ?_
    refine j_iushr hK dJ6_numberOfTrailingZeros_0f7a4_72 ?_
    refine lt_I hf (fun y1 hf => ?_)
    refine j_istore_n hK (L' := [(0, .int y1), (1, .int (x1 + (2 : Int32)))]) dJ6_numberOfTrailingZeros_0f7a4_73 rfl (by decide) rfl ?_
    exact t_J6_numberOfTrailingZeros_0f7a4_74 hK hA  hf
def f_J6_numberOfTrailingZeros_0f7a4_49 (x0 : Int32) (x1 : Int32) (S : St) : Option (Int32 × St) := (if x0 ≤ (16 : Int32) then f_J6_numberOfTrailingZeros_0f7a4_62 x0 x1 S else lt (ushr x0 (4 : Int32)) (fun y2 => f_J6_numberOfTrailingZeros_0f7a4_62 y2 (x1 + (4 : Int32)) S))
theorem t_J6_numberOfTrailingZeros_0f7a4_49 {K : CT} (hK : KO K cJ6_numberOfTrailingZeros_0f7a4 RJ6 2 1 (some .int)) {r : Int32} {S' : St} (hA : zans K = (some (.int r), S')) {x0 : Int32} {x1 : Int32} {S : St} (hf : f_J6_numberOfTrailingZeros_0f7a4_49 x0 x1 S = some (r, S')) : J K 49 [(0, .int x0), (1, .int x1)] [] S := by
  unfold f_J6_numberOfTrailingZeros_0f7a4_49 at hf
  refine j_iload_n hK dJ6_numberOfTrailingZeros_0f7a4_49 0 rfl rfl ?_
  refine j_bipush hK (16 : Int32) dJ6_numberOfTrailingZeros_0f7a4_50 bi_16 ?_
  refine j_icmp_le hK 62 dJ6_numberOfTrailingZeros_0f7a4_52 (by decide) (fun hc => ?_) (fun hc => ?_)
  · replace hf := if_1 hc hf
    exact t_J6_numberOfTrailingZeros_0f7a4_62 hK hA  hf
  · replace hf := if_2 hc hf
    refine j_iinc hK (L' := [(1, .int (x1 + (4 : Int32))), (0, .int x0)]) dJ6_numberOfTrailingZeros_0f7a4_55 1 rfl (congrArg (fun y => x1 + y) ic_4) (by decide) rfl ?_
    refine j_iload_n hK dJ6_numberOfTrailingZeros_0f7a4_58 1 rfl rfl ?_
    refine j_iconst hK (4 : Int32) dJ6_numberOfTrailingZeros_0f7a4_59 ic_4 ?_
    refine j_iushr hK dJ6_numberOfTrailingZeros_0f7a4_60 ?_
    refine lt_I hf (fun y2 hf => ?_)
    refine j_istore_n hK (L' := [(0, .int y2), (1, .int (x1 + (4 : Int32)))]) dJ6_numberOfTrailingZeros_0f7a4_61 rfl (by decide) rfl ?_
    exact t_J6_numberOfTrailingZeros_0f7a4_62 hK hA  hf
def f_J6_numberOfTrailingZeros_0f7a4_34 (x0 : Int32) (x1 : Int32) (S : St) : Option (Int32 × St) := (if x0 ≤ (256 : Int32) then f_J6_numberOfTrailingZeros_0f7a4_49 x0 x1 S else lt (ushr x0 (8 : Int32)) (fun y3 => f_J6_numberOfTrailingZeros_0f7a4_49 y3 (x1 + (8 : Int32)) S))
theorem t_J6_numberOfTrailingZeros_0f7a4_34 {K : CT} (hK : KO K cJ6_numberOfTrailingZeros_0f7a4 RJ6 2 1 (some .int)) {r : Int32} {S' : St} (hA : zans K = (some (.int r), S')) {x0 : Int32} {x1 : Int32} {S : St} (hf : f_J6_numberOfTrailingZeros_0f7a4_34 x0 x1 S = some (r, S')) : J K 34 [(0, .int x0), (1, .int x1)] [] S := by
  unfold f_J6_numberOfTrailingZeros_0f7a4_34 at hf
  refine j_iload_n hK dJ6_numberOfTrailingZeros_0f7a4_34 0 rfl rfl ?_
  refine j_sipush hK (256 : Int32) dJ6_numberOfTrailingZeros_0f7a4_35 si_256 ?_
  refine j_icmp_le hK 49 dJ6_numberOfTrailingZeros_0f7a4_38 (by decide) (fun hc => ?_) (fun hc => ?_)
  · replace hf := if_1 hc hf
    exact t_J6_numberOfTrailingZeros_0f7a4_49 hK hA  hf
  · replace hf := if_2 hc hf
    refine j_iinc hK (L' := [(1, .int (x1 + (8 : Int32))), (0, .int x0)]) dJ6_numberOfTrailingZeros_0f7a4_41 1 rfl (congrArg (fun y => x1 + y) ic_8) (by decide) rfl ?_
    refine j_iload_n hK dJ6_numberOfTrailingZeros_0f7a4_44 1 rfl rfl ?_
    refine j_bipush hK (8 : Int32) dJ6_numberOfTrailingZeros_0f7a4_45 bi_8 ?_
    refine j_iushr hK dJ6_numberOfTrailingZeros_0f7a4_47 ?_
    refine lt_I hf (fun y3 hf => ?_)
    refine j_istore_n hK (L' := [(0, .int y3), (1, .int (x1 + (8 : Int32)))]) dJ6_numberOfTrailingZeros_0f7a4_48 rfl (by decide) rfl ?_
    exact t_J6_numberOfTrailingZeros_0f7a4_49 hK hA  hf
def f_J6_numberOfTrailingZeros_0f7a4 (p0 : Int32) (S : St) : Option (Int32 × St) := lt ((p0 ^^^ (-1 : Int32)) &&& (p0 - (1 : Int32))) (fun y4 => (if 0 < y4 then (if y4 ≤ (65536 : Int32) then f_J6_numberOfTrailingZeros_0f7a4_34 y4 (1 : Int32) S else lt (ushr y4 (16 : Int32)) (fun y5 => f_J6_numberOfTrailingZeros_0f7a4_34 y5 ((1 : Int32) + (16 : Int32)) S)) else some ((y4 &&& (32 : Int32)), S)))
theorem c_J6_numberOfTrailingZeros_0f7a4 {p0 : Int32} {S : St} {r : Int32} {S' : St} (hf : f_J6_numberOfTrailingZeros_0f7a4 p0 S = some (r, S')) : zM yJ6_numberOfTrailingZeros_0f7a4 cJ6_numberOfTrailingZeros_0f7a4 2 1 (some .int) [.int p0] S (some (.int r)) S' := by
  refine zM_of (zpl (by decide)) (Nat.le_of_ble_eq_true rfl) rfl (fun K hK hA => ?_)
  unfold f_J6_numberOfTrailingZeros_0f7a4 at hf
  refine j_iload_n hK dJ6_numberOfTrailingZeros_0f7a4_0 0 rfl rfl ?_
  refine j_iconst hK (-1 : Int32) dJ6_numberOfTrailingZeros_0f7a4_1 ic_m1 ?_
  refine j_ixor hK dJ6_numberOfTrailingZeros_0f7a4_2 ?_
  refine j_iload_n hK dJ6_numberOfTrailingZeros_0f7a4_3 0 rfl rfl ?_
  refine j_iconst hK (1 : Int32) dJ6_numberOfTrailingZeros_0f7a4_4 ic_1 ?_
  refine j_isub hK dJ6_numberOfTrailingZeros_0f7a4_5 ?_
  refine j_iand hK dJ6_numberOfTrailingZeros_0f7a4_6 ?_
  refine lt_I hf (fun y4 hf => ?_)
  refine j_istore_n hK (L' := [(0, .int y4)]) dJ6_numberOfTrailingZeros_0f7a4_7 rfl (by decide) rfl ?_
  refine j_pc (pc' := 8) rfl ?_
  refine j_iload_n hK dJ6_numberOfTrailingZeros_0f7a4_8 0 rfl rfl ?_
  refine j_if_gt hK 17 dJ6_numberOfTrailingZeros_0f7a4_9 (by decide) (fun hc => ?_) (fun hc => ?_)
  · replace hf := if_1 hc hf
    refine j_iconst hK (1 : Int32) dJ6_numberOfTrailingZeros_0f7a4_17 ic_1 ?_
    refine j_istore_n hK (L' := [(1, .int (1 : Int32)), (0, .int y4)]) dJ6_numberOfTrailingZeros_0f7a4_18 rfl (by decide) rfl ?_
    refine j_iload_n hK dJ6_numberOfTrailingZeros_0f7a4_19 1 rfl rfl ?_
    refine j_ldcw hK (v := (65536 : Int32)) cn_J6_264 dJ6_numberOfTrailingZeros_0f7a4_20 ?_
    refine j_icmp_le hK 34 dJ6_numberOfTrailingZeros_0f7a4_23 (by decide) (fun hc => ?_) (fun hc => ?_)
    · replace hf := if_1 hc hf
      refine j_sub [1, 0] rfl ?_
      exact t_J6_numberOfTrailingZeros_0f7a4_34 hK hA  hf
    · replace hf := if_2 hc hf
      refine j_iinc hK (L' := [(1, .int ((1 : Int32) + (16 : Int32))), (0, .int y4)]) dJ6_numberOfTrailingZeros_0f7a4_26 0 rfl (congrArg (fun y => (1 : Int32) + y) ic_16) (by decide) rfl ?_
      refine j_iload_n hK dJ6_numberOfTrailingZeros_0f7a4_29 1 rfl rfl ?_
      refine j_bipush hK (16 : Int32) dJ6_numberOfTrailingZeros_0f7a4_30 bi_16 ?_
      refine j_iushr hK dJ6_numberOfTrailingZeros_0f7a4_32 ?_
      refine lt_I hf (fun y5 hf => ?_)
      refine j_istore_n hK (L' := [(0, .int y5), (1, .int ((1 : Int32) + (16 : Int32)))]) dJ6_numberOfTrailingZeros_0f7a4_33 rfl (by decide) rfl ?_
      exact t_J6_numberOfTrailingZeros_0f7a4_34 hK hA  hf
  · replace hf := if_2 hc hf
    refine j_iload_n hK dJ6_numberOfTrailingZeros_0f7a4_12 0 rfl rfl ?_
    refine j_bipush hK (32 : Int32) dJ6_numberOfTrailingZeros_0f7a4_13 bi_32 ?_
    refine j_iand hK dJ6_numberOfTrailingZeros_0f7a4_15 ?_
    exact j_iret hK dJ6_numberOfTrailingZeros_0f7a4_16 rfl (rt_I hA hf)
def f_X2_leastOf (p1 : Int32) (S : St) : Option (Int32 × St) := (if p1 = 0 then some ((-1 : Int32), S) else bd (f_J6_numberOfTrailingZeros_0f7a4 p1 S) (fun r1 S2 => some (r1, S2)))
theorem c_X2_leastOf {p1 : Int32} {S : St} {r : Int32} {S' : St} (hf : f_X2_leastOf p1 S = some (r, S')) : zM yX2_leastOf cX2_leastOf 2 2 (some .int) [.ref 92, .int p1] S (some (.int r)) S' := by
  refine zM_of (zpl (by decide)) (Nat.le_of_ble_eq_true rfl) rfl (fun K hK hA => ?_)
  unfold f_X2_leastOf at hf
  refine j_iload_n hK dX2_leastOf_0 1 rfl rfl ?_
  refine j_if_ne hK 8 dX2_leastOf_1 (by decide) (fun hc => ?_) (fun hc => ?_)
  · replace hf := if_2 hc hf
    refine j_iload_n hK dX2_leastOf_8 1 rfl rfl ?_
    obtain ⟨r1, S2, h3, hf⟩ := bd_J hf
    refine k_callSi hK (c_J6_numberOfTrailingZeros_0f7a4 h3) dX2_leastOf_9 ml_X2_81 ms_J6_numberOfTrailingZeros_0f7a4 in_J6 mc_J6_numberOfTrailingZeros_0f7a4 hy_J6_numberOfTrailingZeros_0f7a4 ⟨by decide, by decide⟩ rfl (Nat.le_of_ble_eq_true rfl) ?_
    exact j_iret hK dX2_leastOf_12 rfl (rt_I hA hf)
  · replace hf := if_1 hc hf
    refine j_iconst hK (-1 : Int32) dX2_leastOf_4 ic_m1 ?_
    refine j_goto hK 12 dX2_leastOf_5 (by decide) ?_
    exact j_iret hK dX2_leastOf_12 rfl (rt_I hA hf)
def f_X2_goes_209 (x1 : Int32) (x3 : Int32) (s0 : Int32) (k e : Int32 × Int32 → St → Option (Int32 × St)) (S : St) : Option (Int32 × St) := k (x3, s0) S
theorem t_X2_goes_209 {K : CT} (hK : KO K cX2_goes RX2 5 4 (some .boolean)) {r : Int32} {S' : St} (hA : zans K = (some (.int r), S')) {x1 : Int32} {x3 : Int32} {s0 : Int32} {k e : Int32 × Int32 → St → Option (Int32 × St)} (hk : ∀ (v : Int32 × Int32) (S : St), k v S = some (r, S') → J K 65 [(0, .ref 92), (1, .int x1), (3, .int v.1), (4, .int v.2)] [] S) (he : ∀ (v : Int32 × Int32) (S : St), e v S = some (r, S') → J K 214 [] [] S) {S : St} (hf : f_X2_goes_209 x1 x3 s0 k e S = some (r, S')) : J K 209 [(0, .ref 92), (1, .int x1), (3, .int x3)] [.int s0] S := by
  unfold f_X2_goes_209 at hf
  refine j_istore hK (L' := [(4, .int s0), (0, .ref 92), (1, .int x1), (3, .int x3)]) dX2_goes_209 (by decide) rfl ?_
  refine j_goto hK 65 dX2_goes_211 (by decide) ?_
  refine j_sub [1, 2, 3, 0] rfl ?_
  exact hk _ _ hf
def f_X2_goes_121 (x1 : Int32) (x3 : Int32) (x4 : Int32) (s1 : Int32) (s2 : Int32) (k e : Int32 × Int32 → St → Option (Int32 × St)) (S : St) : Option (Int32 × St) := if inb s1 12 then lt (sI S 94 s1.toNatClampNeg s2) (fun S2 => lt (sI S2 92 3 ((gI S2 92 3) + (1 : Int32))) (fun S3 => if inb x4 12 then lt (sI S3 92 4 ((gI S3 92 4) + (gI S3 7 x4.toNatClampNeg))) (fun S5 => lt (x3 &&& (((1 : Int32) <<< (x4 &&& 31)) ^^^ (-1 : Int32))) (fun y6 => bd (f_X0_acrossFrom (gI S5 92 5) x4 S5) (fun r7 S8 => lt (sI S8 92 5 r7) (fun S10 => (if (gI S10 92 5) = x1 then f_X2_goes_209 x1 y6 (-1 : Int32) k e S10 else bd (f_X0_openOf (gI S10 92 5) S10) (fun r11 S12 => bd (f_X2_leastOf (y6 &&& r11) S12) (fun r14 S15 => f_X2_goes_209 x1 y6 r14 k e S15))))))) else none)) else none
theorem t_X2_goes_121 {K : CT} (hK : KO K cX2_goes RX2 5 4 (some .boolean)) {r : Int32} {S' : St} (hA : zans K = (some (.int r), S')) {x1 : Int32} {x3 : Int32} {x4 : Int32} {s1 : Int32} {s2 : Int32} {k e : Int32 × Int32 → St → Option (Int32 × St)} (hk : ∀ (v : Int32 × Int32) (S : St), k v S = some (r, S') → J K 65 [(0, .ref 92), (1, .int x1), (3, .int v.1), (4, .int v.2)] [] S) (he : ∀ (v : Int32 × Int32) (S : St), e v S = some (r, S') → J K 214 [] [] S) {S : St} (hf : f_X2_goes_121 x1 x3 x4 s1 s2 k e S = some (r, S')) : J K 121 [(0, .ref 92), (1, .int x1), (3, .int x3), (4, .int x4)] [.int s2, .int s1, .ref 94] S := by
  unfold f_X2_goes_121 at hf
  obtain ⟨hi1, hf⟩ := gd hf
  refine k_iast hK dX2_goes_121 zb_94 hi1 rfl ?_
  refine lt_S hf (fun S2 hf => ?_)
  refine j_aload_n hK dX2_goes_122 0 rfl rfl ?_
  refine j_dup hK dX2_goes_123 rfl ?_
  refine j_getI hK fl_X2_22 dX2_goes_124 zo_92 zf_2_3 ?_
  refine j_iconst hK (1 : Int32) dX2_goes_127 ic_1 ?_
  refine j_iadd hK dX2_goes_128 ?_
  refine j_putI hK fl_X2_22 dX2_goes_129 zo_92 zf_2_3 ?_
  refine lt_S hf (fun S3 hf => ?_)
  refine j_aload_n hK dX2_goes_132 0 rfl rfl ?_
  refine j_pc (pc' := 133) rfl ?_
  refine j_dup hK dX2_goes_133 rfl ?_
  refine j_getI hK fl_X2_26 dX2_goes_134 zo_92 zf_2_4 ?_
  refine j_aload_n hK dX2_goes_137 0 rfl rfl ?_
  refine j_getR hK fl_X2_9 dX2_goes_138 zo_92 zf_2_0 zr_92_0 ?_
  refine j_getR hK fl_X2_55 dX2_goes_141 zo_3 zf_0_3 zr_3_3 ?_
  refine j_getR hK fl_X2_67 dX2_goes_144 zo_6 zf_7_0 zr_6_0 ?_
  refine j_iload hK dX2_goes_147 3 rfl ?_
  obtain ⟨hi4, hf⟩ := gd hf
  refine k_iald hK dX2_goes_149 zb_7 hi4 rfl ?_
  refine j_pc (pc' := 150) rfl ?_
  refine j_iadd hK dX2_goes_150 ?_
  refine j_putI hK fl_X2_26 dX2_goes_151 zo_92 zf_2_4 ?_
  refine lt_S hf (fun S5 hf => ?_)
  refine j_iload_n hK dX2_goes_154 2 rfl rfl ?_
  refine j_iconst hK (1 : Int32) dX2_goes_155 ic_1 ?_
  refine j_iload hK dX2_goes_156 3 rfl ?_
  refine j_ishl hK dX2_goes_158 ?_
  refine j_iconst hK (-1 : Int32) dX2_goes_159 ic_m1 ?_
  refine j_ixor hK dX2_goes_160 ?_
  refine j_pc (pc' := 161) rfl ?_
  refine j_iand hK dX2_goes_161 ?_
  refine lt_I hf (fun y6 hf => ?_)
  refine j_istore_n hK (L' := [(3, .int y6), (0, .ref 92), (1, .int x1), (4, .int x4)]) dX2_goes_162 rfl (by decide) rfl ?_
  refine j_aload_n hK dX2_goes_163 1 rfl rfl ?_
  refine j_aload_n hK dX2_goes_164 1 rfl rfl ?_
  refine j_getR hK fl_X2_9 dX2_goes_165 zo_92 zf_2_0 zr_92_0 ?_
  refine j_aload_n hK dX2_goes_168 1 rfl rfl ?_
  refine j_getI hK fl_X2_29 dX2_goes_169 zo_92 zf_2_5 ?_
  refine j_iload hK dX2_goes_172 3 rfl ?_
  refine j_pc (pc' := 174) rfl ?_
  obtain ⟨r7, S8, h9, hf⟩ := bd_J hf
  refine k_callVi hK (c_X0_acrossFrom h9) dX2_goes_174 zclX0 zo_3 ml_X2_70 mi_X0_acrossFrom mx_X0_acrossFrom in_X0 mc_X0_acrossFrom hy_X0_acrossFrom ⟨by decide, by decide⟩ rfl (Nat.le_of_ble_eq_true rfl) ?_
  refine j_putI hK fl_X2_29 dX2_goes_177 zo_92 zf_2_5 ?_
  refine lt_S hf (fun S10 hf => ?_)
  refine j_aload_n hK dX2_goes_180 1 rfl rfl ?_
  refine j_getI hK fl_X2_29 dX2_goes_181 zo_92 zf_2_5 ?_
  refine j_iload_n hK dX2_goes_184 2 rfl rfl ?_
  refine j_icmp_ne hK 192 dX2_goes_185 (by decide) (fun hc => ?_) (fun hc => ?_)
  · replace hf := if_2 hc hf
    refine j_aload_n hK dX2_goes_192 1 rfl rfl ?_
    refine j_iload_n hK dX2_goes_193 0 rfl rfl ?_
    refine j_aload_n hK dX2_goes_194 1 rfl rfl ?_
    refine j_getR hK fl_X2_9 dX2_goes_195 zo_92 zf_2_0 zr_92_0 ?_
    refine j_aload_n hK dX2_goes_198 1 rfl rfl ?_
    refine j_getI hK fl_X2_29 dX2_goes_199 zo_92 zf_2_5 ?_
    obtain ⟨r11, S12, h13, hf⟩ := bd_J hf
    refine k_callVi hK (c_X0_openOf h13) dX2_goes_202 zclX0 zo_3 ml_X2_74 mi_X0_openOf mx_X0_openOf in_X0 mc_X0_openOf hy_X0_openOf ⟨by decide, by decide⟩ rfl (Nat.le_of_ble_eq_true rfl) ?_
    refine j_pc (pc' := 205) rfl ?_
    refine j_iand hK dX2_goes_205 ?_
    obtain ⟨r14, S15, h16, hf⟩ := bd_J hf
    refine k_callVi hK (c_X2_leastOf h16) dX2_goes_206 zclX2 zo_92 ml_X2_78 mi_X2_leastOf mx_X2_leastOf in_X2 mc_X2_leastOf hy_X2_leastOf ⟨by decide, by decide⟩ rfl (Nat.le_of_ble_eq_true rfl) ?_
    refine j_sub [1, 2, 0] rfl ?_
    exact t_X2_goes_209 hK hA hk he hf
  · replace hf := if_1 hc hf
    refine j_iconst hK (-1 : Int32) dX2_goes_188 ic_m1 ?_
    refine j_goto hK 209 dX2_goes_189 (by decide) ?_
    refine j_sub [1, 2, 0] rfl ?_
    exact t_X2_goes_209 hK hA hk he hf
def f_X2_goes_65b (x1 : Int32) (e : Int32 × Int32 → St → Option (Int32 × St)) (k : Int32 × Int32 → St → Option (Int32 × St)) (v : Int32 × Int32) (S : St) : Option (Int32 × St) := (if v.2 = (-1 : Int32) then e (v.1, v.2) S else (if (12 : Int32) ≤ (gI S 92 3) then e (v.1, v.2) S else if inb (gI S 92 3) 12 then lt (sI S 93 (gI S 92 3).toNatClampNeg v.2) (fun S18 => if inb v.2 12 then (if (gI S18 5 v.2.toNatClampNeg) = (gI S18 92 5) then f_X2_goes_121 x1 v.1 v.2 (gI S18 92 3) (1 : Int32) k e S18 else f_X2_goes_121 x1 v.1 v.2 (gI S18 92 3) (0 : Int32) k e S18) else none) else none))
theorem t_X2_goes_65 {K : CT} (hK : KO K cX2_goes RX2 5 4 (some .boolean)) {r : Int32} {S' : St} (hA : zans K = (some (.int r), S')) {x1 : Int32} {e : Int32 × Int32 → St → Option (Int32 × St)} (he : ∀ (v : Int32 × Int32) (S : St), e v S = some (r, S') → J K 214 [] [] S) : ∀ (n : Nat) (v : Int32 × Int32) (S : St), lp (f_X2_goes_65b x1 e) n v S = some (r, S') → J K 65 [(0, .ref 92), (1, .int x1), (3, .int v.1), (4, .int v.2)] [] S :=
  lp_J (P := fun (v : Int32 × Int32) (S : St) => J K 65 [(0, .ref 92), (1, .int x1), (3, .int v.1), (4, .int v.2)] [] S) (fun k hk v S hf => by
    unfold f_X2_goes_65b at hf
    refine j_iload hK dX2_goes_65 3 rfl ?_
    refine j_iconst hK (-1 : Int32) dX2_goes_67 ic_m1 ?_
    refine j_icmp_eq hK 214 dX2_goes_68 (by decide) (fun hc => ?_) (fun hc => ?_)
    · replace hf := if_1 hc hf
      refine j_sub [] rfl ?_
      exact he _ _ hf
    · replace hf := if_2 hc hf
      refine j_aload_n hK dX2_goes_71 0 rfl rfl ?_
      refine j_getI hK fl_X2_22 dX2_goes_72 zo_92 zf_2_3 ?_
      refine j_bipush hK (12 : Int32) dX2_goes_75 bi_12 ?_
      refine j_icmp_ge hK 214 dX2_goes_77 (by decide) (fun hc => ?_) (fun hc => ?_)
      · replace hf := if_1 hc hf
        refine j_sub [] rfl ?_
        exact he _ _ hf
      · replace hf := if_2 hc hf
        refine j_aload_n hK dX2_goes_80 0 rfl rfl ?_
        refine j_getR hK fl_X2_15 dX2_goes_81 zo_92 zf_2_1 zr_92_1 ?_
        refine j_aload_n hK dX2_goes_84 0 rfl rfl ?_
        refine j_getI hK fl_X2_22 dX2_goes_85 zo_92 zf_2_3 ?_
        refine j_iload hK dX2_goes_88 3 rfl ?_
        obtain ⟨hi17, hf⟩ := gd hf
        refine k_iast hK dX2_goes_90 zb_93 hi17 rfl ?_
        refine lt_S hf (fun S18 hf => ?_)
        refine j_aload_n hK dX2_goes_91 0 rfl rfl ?_
        refine j_pc (pc' := 92) rfl ?_
        refine j_getR hK fl_X2_19 dX2_goes_92 zo_92 zf_2_2 zr_92_2 ?_
        refine j_aload_n hK dX2_goes_95 0 rfl rfl ?_
        refine j_getI hK fl_X2_22 dX2_goes_96 zo_92 zf_2_3 ?_
        refine j_aload_n hK dX2_goes_99 0 rfl rfl ?_
        refine j_getR hK fl_X2_9 dX2_goes_100 zo_92 zf_2_0 zr_92_0 ?_
        refine j_getR hK fl_X2_64 dX2_goes_103 zo_3 zf_0_1 zr_3_1 ?_
        refine j_iload hK dX2_goes_106 3 rfl ?_
        obtain ⟨hi19, hf⟩ := gd hf
        refine k_iald hK dX2_goes_108 zb_5 hi19 rfl ?_
        refine j_pc (pc' := 109) rfl ?_
        refine j_aload_n hK dX2_goes_109 0 rfl rfl ?_
        refine j_getI hK fl_X2_29 dX2_goes_110 zo_92 zf_2_5 ?_
        refine j_icmp_ne hK 120 dX2_goes_113 (by decide) (fun hc => ?_) (fun hc => ?_)
        · replace hf := if_2 hc hf
          refine j_iconst hK (0 : Int32) dX2_goes_120 ic_0 ?_
          exact t_X2_goes_121 hK hA hk he hf
        · replace hf := if_1 hc hf
          refine j_iconst hK (1 : Int32) dX2_goes_116 ic_1 ?_
          refine j_goto hK 121 dX2_goes_117 (by decide) ?_
          exact t_X2_goes_121 hK hA hk he hf)
def f_X2_goes (p1 : Int32) (p2 : Int32) (S : St) : Option (Int32 × St) := bd (f_X0_has p2 S) (fun r20 S21 => (if r20 = 0 then some ((0 : Int32), S21) else bd (f_X0_isOpen p2 S21) (fun r23 S24 => (if r23 = 0 then some ((0 : Int32), S24) else bd (f_X0_isEnd p1 p2 S24) (fun r26 S27 => (if r26 = 0 then some ((0 : Int32), S27) else lt (sI S27 92 3 (0 : Int32)) (fun S29 => lt (sI S29 92 4 (0 : Int32)) (fun S30 => lt (sI S30 92 5 p1) (fun S31 => lt (gI S31 6 3) (fun y32 => lp (f_X2_goes_65b p1 (fun v33 S34 => some ((1 : Int32), S34))) FU (y32, p2) S31))))))))))
theorem c_X2_goes {p1 : Int32} {p2 : Int32} {S : St} {r : Int32} {S' : St} (hf : f_X2_goes p1 p2 S = some (r, S')) : zM yX2_goes cX2_goes 5 4 (some .boolean) [.ref 92, .int p1, .int p2] S (some (.int r)) S' := by
  refine zM_of (zpl (by decide)) (Nat.le_of_ble_eq_true rfl) rfl (fun K hK hA => ?_)
  unfold f_X2_goes at hf
  refine j_aload_n hK dX2_goes_0 0 rfl rfl ?_
  refine j_getR hK fl_X2_9 dX2_goes_1 zo_92 zf_2_0 zr_92_0 ?_
  refine j_iload_n hK dX2_goes_4 2 rfl rfl ?_
  obtain ⟨r20, S21, h22, hf⟩ := bd_J hf
  refine k_callVi hK (c_X0_has h22) dX2_goes_5 zclX0 zo_3 ml_X2_42 mi_X0_has mx_X0_has in_X0 mc_X0_has hy_X0_has ⟨by decide, by decide⟩ rfl (Nat.le_of_ble_eq_true rfl) ?_
  refine j_if_eq hK 34 dX2_goes_8 (by decide) (fun hc => ?_) (fun hc => ?_)
  · replace hf := if_1 hc hf
    refine j_iconst hK (0 : Int32) dX2_goes_34 ic_0 ?_
    exact j_zret hK dX2_goes_35 rfl rfl (rt_I hA hf)
  · replace hf := if_2 hc hf
    refine j_aload_n hK dX2_goes_11 0 rfl rfl ?_
    refine j_getR hK fl_X2_9 dX2_goes_12 zo_92 zf_2_0 zr_92_0 ?_
    refine j_iload_n hK dX2_goes_15 2 rfl rfl ?_
    obtain ⟨r23, S24, h25, hf⟩ := bd_J hf
    refine k_callVi hK (c_X0_isOpen h25) dX2_goes_16 zclX0 zo_3 ml_X2_48 mi_X0_isOpen mx_X0_isOpen in_X0 mc_X0_isOpen hy_X0_isOpen ⟨by decide, by decide⟩ rfl (Nat.le_of_ble_eq_true rfl) ?_
    refine j_if_eq hK 34 dX2_goes_19 (by decide) (fun hc => ?_) (fun hc => ?_)
    · replace hf := if_1 hc hf
      refine j_iconst hK (0 : Int32) dX2_goes_34 ic_0 ?_
      exact j_zret hK dX2_goes_35 rfl rfl (rt_I hA hf)
    · replace hf := if_2 hc hf
      refine j_aload_n hK dX2_goes_22 0 rfl rfl ?_
      refine j_getR hK fl_X2_9 dX2_goes_23 zo_92 zf_2_0 zr_92_0 ?_
      refine j_iload_n hK dX2_goes_26 1 rfl rfl ?_
      refine j_iload_n hK dX2_goes_27 2 rfl rfl ?_
      obtain ⟨r26, S27, h28, hf⟩ := bd_J hf
      refine k_callVi hK (c_X0_isEnd h28) dX2_goes_28 zclX0 zo_3 ml_X2_51 mi_X0_isEnd mx_X0_isEnd in_X0 mc_X0_isEnd hy_X0_isEnd ⟨by decide, by decide⟩ rfl (Nat.le_of_ble_eq_true rfl) ?_
      refine j_if_ne hK 36 dX2_goes_31 (by decide) (fun hc => ?_) (fun hc => ?_)
      · replace hf := if_2 hc hf
        refine j_aload_n hK dX2_goes_36 0 rfl rfl ?_
        refine j_iconst hK (0 : Int32) dX2_goes_37 ic_0 ?_
        refine j_putI hK fl_X2_22 dX2_goes_38 zo_92 zf_2_3 ?_
        refine lt_S hf (fun S29 hf => ?_)
        refine j_aload_n hK dX2_goes_41 0 rfl rfl ?_
        refine j_iconst hK (0 : Int32) dX2_goes_42 ic_0 ?_
        refine j_putI hK fl_X2_26 dX2_goes_43 zo_92 zf_2_4 ?_
        refine lt_S hf (fun S30 hf => ?_)
        refine j_aload_n hK dX2_goes_46 0 rfl rfl ?_
        refine j_pc (pc' := 47) rfl ?_
        refine j_iload_n hK dX2_goes_47 1 rfl rfl ?_
        refine j_putI hK fl_X2_29 dX2_goes_48 zo_92 zf_2_5 ?_
        refine lt_S hf (fun S31 hf => ?_)
        refine j_aload_n hK dX2_goes_51 0 rfl rfl ?_
        refine j_getR hK fl_X2_9 dX2_goes_52 zo_92 zf_2_0 zr_92_0 ?_
        refine j_getR hK fl_X2_55 dX2_goes_55 zo_3 zf_0_3 zr_3_3 ?_
        refine j_getI hK fl_X2_59 dX2_goes_58 zo_6 zf_7_3 ?_
        refine lt_I hf (fun y32 hf => ?_)
        refine j_istore_n hK (L' := [(3, .int y32), (0, .ref 92), (1, .int p1), (2, .int p2)]) dX2_goes_61 rfl (by decide) rfl ?_
        refine j_iload_n hK dX2_goes_62 3 rfl rfl ?_
        refine j_pc (pc' := 63) rfl ?_
        refine j_istore hK (L' := [(4, .int p2), (3, .int y32), (0, .ref 92), (1, .int p1), (2, .int p2)]) dX2_goes_63 (by decide) rfl ?_
        refine j_sub [2, 3, 1, 0] rfl ?_
        refine t_X2_goes_65 hK hA  (fun v33 S34 hf => ?_) _ _ _ hf
        refine j_iconst hK (1 : Int32) dX2_goes_214 ic_1 ?_
        exact j_zret hK dX2_goes_215 rfl rfl (rt_I hA hf)
      · replace hf := if_1 hc hf
        refine j_iconst hK (0 : Int32) dX2_goes_34 ic_0 ?_
        exact j_zret hK dX2_goes_35 rfl rfl (rt_I hA hf)
def f_X8_lettersFrom_2b (x1 : Int32) (e : Int32 → St → Option (Int32 × St)) (k : Int32 → St → Option (Int32 × St)) (v : Int32) (S : St) : Option (Int32 × St) := (if (gI S 1 1) ≤ (x1 + v) then e v S else bd (f_X8_within (x1 + v) (97 : Int32) (104 : Int32) S) (fun r1 S2 => (if r1 = 0 then e v S2 else k (v + (1 : Int32)) S2)))
theorem t_X8_lettersFrom_2 {K : CT} (hK : KO K cX8_lettersFrom RX8 3 2 (some .int)) {r : Int32} {S' : St} (hA : zans K = (some (.int r), S')) {x1 : Int32} {e : Int32 → St → Option (Int32 × St)} (he : ∀ (v : Int32) (S : St), e v S = some (r, S') → J K 32 [(2, .int v)] [] S) : ∀ (n : Nat) (v : Int32) (S : St), lp (f_X8_lettersFrom_2b x1 e) n v S = some (r, S') → J K 2 [(0, .ref 1), (1, .int x1), (2, .int v)] [] S :=
  lp_J (P := fun (v : Int32) (S : St) => J K 2 [(0, .ref 1), (1, .int x1), (2, .int v)] [] S) (fun k hk v S hf => by
    unfold f_X8_lettersFrom_2b at hf
    refine j_iload_n hK dX8_lettersFrom_2 1 rfl rfl ?_
    refine j_iload_n hK dX8_lettersFrom_3 2 rfl rfl ?_
    refine j_iadd hK dX8_lettersFrom_4 ?_
    refine j_aload_n hK dX8_lettersFrom_5 0 rfl rfl ?_
    refine j_getI hK fl_X8_15 dX8_lettersFrom_6 zo_1 zf_8_1 ?_
    refine j_icmp_ge hK 32 dX8_lettersFrom_9 (by decide) (fun hc => ?_) (fun hc => ?_)
    · replace hf := if_1 hc hf
      refine j_sub [2] rfl ?_
      exact he _ _ hf
    · replace hf := if_2 hc hf
      refine j_aload_n hK dX8_lettersFrom_12 0 rfl rfl ?_
      refine j_iload_n hK dX8_lettersFrom_13 1 rfl rfl ?_
      refine j_iload_n hK dX8_lettersFrom_14 2 rfl rfl ?_
      refine j_iadd hK dX8_lettersFrom_15 ?_
      refine j_bipush hK (97 : Int32) dX8_lettersFrom_16 bi_97 ?_
      refine j_bipush hK (104 : Int32) dX8_lettersFrom_18 bi_104 ?_
      obtain ⟨r1, S2, h3, hf⟩ := bd_J hf
      refine k_callVi hK (c_X8_within h3) dX8_lettersFrom_20 zclX8 zo_1 ml_X8_19 mi_X8_within mx_X8_within in_X8 mc_X8_within hy_X8_within ⟨by decide, by decide⟩ rfl (Nat.le_of_ble_eq_true rfl) ?_
      refine j_pc (pc' := 23) rfl ?_
      refine j_if_eq hK 32 dX8_lettersFrom_23 (by decide) (fun hc => ?_) (fun hc => ?_)
      · replace hf := if_1 hc hf
        refine j_sub [2] rfl ?_
        exact he _ _ hf
      · replace hf := if_2 hc hf
        refine j_iinc hK (L' := [(2, .int (v + (1 : Int32))), (0, .ref 1), (1, .int x1)]) dX8_lettersFrom_26 2 rfl (congrArg (fun y => v + y) ic_1) (by decide) rfl ?_
        refine j_goto hK 2 dX8_lettersFrom_29 (by decide) ?_
        refine j_sub [1, 2, 0] rfl ?_
        exact hk _ _ hf)
def f_X8_lettersFrom (p1 : Int32) (S : St) : Option (Int32 × St) := lp (f_X8_lettersFrom_2b p1 (fun v4 S5 => some (v4, S5))) FU (0 : Int32) S
theorem c_X8_lettersFrom {p1 : Int32} {S : St} {r : Int32} {S' : St} (hf : f_X8_lettersFrom p1 S = some (r, S')) : zM yX8_lettersFrom cX8_lettersFrom 3 2 (some .int) [.ref 1, .int p1] S (some (.int r)) S' := by
  refine zM_of (zpl (by decide)) (Nat.le_of_ble_eq_true rfl) rfl (fun K hK hA => ?_)
  unfold f_X8_lettersFrom at hf
  refine j_iconst hK (0 : Int32) dX8_lettersFrom_0 ic_0 ?_
  refine j_istore_n hK (L' := [(2, .int (0 : Int32)), (0, .ref 1), (1, .int p1)]) dX8_lettersFrom_1 rfl (by decide) rfl ?_
  refine j_sub [1, 2, 0] rfl ?_
  refine t_X8_lettersFrom_2 hK hA  (fun v4 S5 hf => ?_) _ _ _ hf
  refine j_iload_n hK dX8_lettersFrom_32 0 rfl rfl ?_
  exact j_iret hK dX8_lettersFrom_33 rfl (rt_I hA hf)
def f_X8_faultOfCall_27 (x1 : Int32) (S : St) : Option (Int32 × St) := some (x1, S)
theorem t_X8_faultOfCall_27 {K : CT} (hK : KO K cX8_faultOfCall RX8 2 3 (some .int)) {r : Int32} {S' : St} (hA : zans K = (some (.int r), S')) {x1 : Int32} {S : St} (hf : f_X8_faultOfCall_27 x1 S = some (r, S')) : J K 27 [(1, .int x1)] [] S := by
  unfold f_X8_faultOfCall_27 at hf
  refine j_iload_n hK dX8_faultOfCall_27 0 rfl rfl ?_
  refine j_goto hK 32 dX8_faultOfCall_28 (by decide) ?_
  exact j_iret hK dX8_faultOfCall_32 rfl (rt_I hA hf)
def f_X8_faultOfCall (S : St) : Option (Int32 × St) := bd (f_X8_lettersFrom (0 : Int32) S) (fun r1 S2 => (if r1 ≤ (6 : Int32) then (if r1 = 0 then f_X8_faultOfCall_27 r1 S2 else (if (gI S2 1 1) ≤ r1 then some ((-1 : Int32), S2) else f_X8_faultOfCall_27 r1 S2)) else some ((6 : Int32), S2)))
theorem c_X8_faultOfCall {S : St} {r : Int32} {S' : St} (hf : f_X8_faultOfCall S = some (r, S')) : zM yX8_faultOfCall cX8_faultOfCall 2 3 (some .int) [.ref 1] S (some (.int r)) S' := by
  refine zM_of (zpl (by decide)) (Nat.le_of_ble_eq_true rfl) rfl (fun K hK hA => ?_)
  unfold f_X8_faultOfCall at hf
  refine j_aload_n hK dX8_faultOfCall_0 0 rfl rfl ?_
  refine j_iconst hK (0 : Int32) dX8_faultOfCall_1 ic_0 ?_
  obtain ⟨r1, S2, h3, hf⟩ := bd_J hf
  refine k_callVi hK (c_X8_lettersFrom h3) dX8_faultOfCall_2 zclX8 zo_1 ml_X8_37 mi_X8_lettersFrom mx_X8_lettersFrom in_X8 mc_X8_lettersFrom hy_X8_lettersFrom ⟨by decide, by decide⟩ rfl (Nat.le_of_ble_eq_true rfl) ?_
  refine j_istore_n hK (L' := [(1, .int r1), (0, .ref 1)]) dX8_faultOfCall_5 rfl (by decide) rfl ?_
  refine j_iload_n hK dX8_faultOfCall_6 0 rfl rfl ?_
  refine j_bipush hK (6 : Int32) dX8_faultOfCall_7 bi_6 ?_
  refine j_icmp_le hK 15 dX8_faultOfCall_9 (by decide) (fun hc => ?_) (fun hc => ?_)
  · replace hf := if_1 hc hf
    refine j_iload_n hK dX8_faultOfCall_15 0 rfl rfl ?_
    refine j_if_eq hK 27 dX8_faultOfCall_16 (by decide) (fun hc => ?_) (fun hc => ?_)
    · replace hf := if_1 hc hf
      refine j_sub [0] rfl ?_
      exact t_X8_faultOfCall_27 hK hA  hf
    · replace hf := if_2 hc hf
      refine j_iload_n hK dX8_faultOfCall_19 0 rfl rfl ?_
      refine j_aload_n hK dX8_faultOfCall_20 1 rfl rfl ?_
      refine j_getI hK fl_X8_15 dX8_faultOfCall_21 zo_1 zf_8_1 ?_
      refine j_icmp_ge hK 31 dX8_faultOfCall_24 (by decide) (fun hc => ?_) (fun hc => ?_)
      · replace hf := if_1 hc hf
        refine j_iconst hK (-1 : Int32) dX8_faultOfCall_31 ic_m1 ?_
        exact j_iret hK dX8_faultOfCall_32 rfl (rt_I hA hf)
      · replace hf := if_2 hc hf
        refine j_sub [0] rfl ?_
        exact t_X8_faultOfCall_27 hK hA  hf
  · replace hf := if_2 hc hf
    refine j_bipush hK (6 : Int32) dX8_faultOfCall_12 bi_6 ?_
    exact j_iret hK dX8_faultOfCall_14 rfl (rt_I hA hf)
def f_X10_refusalOfCall (p1 : Int32) (p2 : Int32) (S : St) : Option (Int32 × St) := bd (f_X2_goes p1 p2 S) (fun r1 S2 => (if r1 = 0 then some ((-100 : Int32), S2) else bd (f_X8_faultOfCall S2) (fun r4 S5 => (if r4 = (-1 : Int32) then some ((0 : Int32), S5) else some (((-1 : Int32) - r4), S5)))))
theorem c_X10_refusalOfCall {p1 : Int32} {p2 : Int32} {S : St} {r : Int32} {S' : St} (hf : f_X10_refusalOfCall p1 p2 S = some (r, S')) : zM yX10_refusalOfCall cX10_refusalOfCall 4 5 (some .int) [.ref 0, .int p1, .int p2] S (some (.int r)) S' := by
  refine zM_of (zpl (by decide)) (Nat.le_of_ble_eq_true rfl) rfl (fun K hK hA => ?_)
  unfold f_X10_refusalOfCall at hf
  refine j_aload_n hK dX10_refusalOfCall_0 0 rfl rfl ?_
  refine j_getR hK fl_X10_42 dX10_refusalOfCall_1 zo_0 zf_10_4 zr_0_4 ?_
  refine j_iload_n hK dX10_refusalOfCall_4 1 rfl rfl ?_
  refine j_iload_n hK dX10_refusalOfCall_5 2 rfl rfl ?_
  obtain ⟨r1, S2, h3, hf⟩ := bd_J hf
  refine k_callVi hK (c_X2_goes h3) dX10_refusalOfCall_6 zclX2 zo_92 ml_X10_236 mi_X2_goes mx_X2_goes in_X2 mc_X2_goes hy_X2_goes ⟨by decide, by decide⟩ rfl (Nat.le_of_ble_eq_true rfl) ?_
  refine j_if_ne hK 15 dX10_refusalOfCall_9 (by decide) (fun hc => ?_) (fun hc => ?_)
  · replace hf := if_2 hc hf
    refine j_aload_n hK dX10_refusalOfCall_15 0 rfl rfl ?_
    refine j_getR hK fl_X10_10 dX10_refusalOfCall_16 zo_0 zf_10_0 zr_0_0 ?_
    obtain ⟨r4, S5, h6, hf⟩ := bd_J hf
    refine k_callVi hK (c_X8_faultOfCall h6) dX10_refusalOfCall_19 zclX8 zo_1 ml_X10_240 mi_X8_faultOfCall mx_X8_faultOfCall in_X8 mc_X8_faultOfCall hy_X8_faultOfCall ⟨by decide, by decide⟩ rfl (Nat.le_of_ble_eq_true rfl) ?_
    refine j_istore_n hK (L' := [(3, .int r4), (0, .ref 0), (1, .int p1), (2, .int p2)]) dX10_refusalOfCall_22 rfl (by decide) rfl ?_
    refine j_iload_n hK dX10_refusalOfCall_23 0 rfl rfl ?_
    refine j_iconst hK (-1 : Int32) dX10_refusalOfCall_24 ic_m1 ?_
    refine j_icmp_ne hK 32 dX10_refusalOfCall_25 (by decide) (fun hc => ?_) (fun hc => ?_)
    · replace hf := if_2 hc hf
      refine j_iconst hK (-1 : Int32) dX10_refusalOfCall_32 ic_m1 ?_
      refine j_iload_n hK dX10_refusalOfCall_33 0 rfl rfl ?_
      refine j_isub hK dX10_refusalOfCall_34 ?_
      exact j_iret hK dX10_refusalOfCall_35 rfl (rt_I hA hf)
    · replace hf := if_1 hc hf
      refine j_iconst hK (0 : Int32) dX10_refusalOfCall_28 ic_0 ?_
      refine j_goto hK 35 dX10_refusalOfCall_29 (by decide) ?_
      exact j_iret hK dX10_refusalOfCall_35 rfl (rt_I hA hf)
  · replace hf := if_1 hc hf
    refine j_bipush hK (-100 : Int32) dX10_refusalOfCall_12 bi_m100 ?_
    exact j_iret hK dX10_refusalOfCall_14 rfl (rt_I hA hf)
