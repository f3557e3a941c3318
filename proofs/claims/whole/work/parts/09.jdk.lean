def f_J6_numberOfTrailingZeros_0f7a4_74 (x0 : Int32) (x1 : Int32) (S : St) : Option (Int32 × St) := some ((x1 + (ushr x0 (1 : Int32))), S)
theorem t_J6_numberOfTrailingZeros_0f7a4_74 {K : CT} (hK : KO K cJ6_numberOfTrailingZeros_0f7a4 RJ6 2 1 (some .int)) {r : Int32} {S' : St} (hA : zans K = (some (.int r), S')) {x0 : Int32} {x1 : Int32} {S : St} (hf : f_J6_numberOfTrailingZeros_0f7a4_74 x0 x1 S = some (r, S')) : J K 74 [(0, .int x0), (1, .int x1)] [] S := by
  unfold f_J6_numberOfTrailingZeros_0f7a4_74 at hf
  refine j_iload_n hK dJ6_numberOfTrailingZeros_0f7a4_74 1 rfl rfl ?_
  refine j_iload_n hK dJ6_numberOfTrailingZeros_0f7a4_75 0 rfl rfl ?_
  refine j_iconst hK (1 : Int32) dJ6_numberOfTrailingZeros_0f7a4_76 ic_1 ?_
  refine j_iushr hK dJ6_numberOfTrailingZeros_0f7a4_77 ?_
  refine j_iadd hK dJ6_numberOfTrailingZeros_0f7a4_78 ?_
  exact j_iret hK dJ6_numberOfTrailingZeros_0f7a4_79 rfl (rt_I hA hf)
def f_J6_numberOfTrailingZeros_0f7a4_62 (x0 : Int32) (x1 : Int32) (S : St) : Option (Int32 × St) := (if x0 ≤ (4 : Int32) then f_J6_numberOfTrailingZeros_0f7a4_74 x0 x1 S else lt (ushr x0 (2 : Int32)) (fun y1 => f_J6_numberOfTrailingZeros_0f7a4_74 y1 (x1 + (2 : Int32)) S))
theorem t_J6_numberOfTrailingZeros_0f7a4_62 {K : CT} (hK : KO K cJ6_numberOfTrailingZeros_0f7a4 RJ6 2 1 (some .int)) {r : Int32} {S' : St} (hA : zans K = (some (.int r), S')) {x0 : Int32} {x1 : Int32} {S : St} (hf : f_J6_numberOfTrailingZeros_0f7a4_62 x0 x1 S = some (r, S')) : J K 62 [(0, .int x0), (1, .int x1)] [] S := by
  unfold f_J6_numberOfTrailingZeros_0f7a4_62 at hf
  refine j_iload_n hK dJ6_numberOfTrailingZeros_0f7a4_62 0 rfl rfl ?_
  refine j_iconst hK (4 : Int32) dJ6_numberOfTrailingZeros_0f7a4_63 ic_4 ?_
  refine j_icmp_le hK 74 dJ6_numberOfTrailingZeros_0f7a4_64 (by decide) (fun hc => ?_) (fun hc => ?_)
  · replace hf := if_1 hc hf
    exact t_J6_numberOfTrailingZeros_0f7a4_74 hK hA  hf
  · replace hf := if_2 hc hf
    refine j_iinc hK (L' := [(1, .int (x1 + (2 : Int32))), (0, .int x0)]) dJ6_numberOfTrailingZeros_0f7a4_67 1 rfl (congrArg (fun y => x1 + y) ic_2) (by decide) rfl ?_
    refine j_iload_n hK dJ6_numberOfTrailingZeros_0f7a4_70 1 rfl rfl ?_
    refine j_iconst hK (2 : Int32) dJ6_numberOfTrailingZeros_0f7a4_71 ic_2 ?_
    refine j_iushr hK dJ6_numberOfTrailingZeros_0f7a4_72 ?_
    refine lt_I hf (fun y1 hf => ?_)
    refine j_istore_n hK (L' := [(0, .int y1), (1, .int (x1 + (2 : Int32)))]) dJ6_numberOfTrailingZeros_0f7a4_73 rfl (by decide) rfl ?_
    exact t_J6_numberOfTrailingZeros_0f7a4_74 hK hA  hf
def f_J6_numberOfTrailingZeros_0f7a4_49 (x0 : Int32) (x1 : Int32) (S : St) : Option (Int32 × St) := (if x0 ≤ (16 : Int32) then f_J6_numberOfTrailingZeros_0f7a4_62 x0 x1 S else lt (ushr x0 (4 : Int32)) (fun y2 => f_J6_numberOfTrailingZeros_0f7a4_62 y2 (x1 + (4 : Int32)) S))
theorem t_J6_numberOfTrailingZeros_0f7a4_49 {K : CT} (hK : KO K cJ6_numberOfTrailingZeros_0f7a4 RJ6 2 1 (some .int)) {r : Int32} {S' : St} (hA : zans K = (some (.int r), S')) {x0 : Int32} {x1 : Int32} {S : St} (hf : f_J6_numberOfTrailingZeros_0f7a4_49 x0 x1 S = some (r, S')) : J K 49 [(0, .int x0), (1, .int x1)] [] S := by
  unfold f_J6_numberOfTrailingZeros_0f7a4_49 at hf
  refine j_iload_n hK dJ6_numberOfTrailingZeros_0f7a4_49 0 rfl rfl ?_
  refine j_bipush hK (16 : Int32) dJ6_numberOfTrailingZeros_0f7a4_50 bi_16 ?_
  refine j_icmp_le hK 62 dJ6_numberOfTrailingZeros_0f7a4_52 (by decide) (fun hc => ?_) (fun hc => ?_)
  · replace hf := if_1 hc hf
    exact t_J6_numberOfTrailingZeros_0f7a4_62 hK hA  hf
  · replace hf := if_2 hc hf
    refine j_iinc hK (L' := [(1, .int (x1 + (4 : Int32))), (0, .int x0)]) dJ6_numberOfTrailingZeros_0f7a4_55 1 rfl (congrArg (fun y => x1 + y) ic_4) (by decide) rfl ?_
    refine j_iload_n hK dJ6_numberOfTrailingZeros_0f7a4_58 1 rfl rfl ?_
    refine j_iconst hK (4 : Int32) dJ6_numberOfTrailingZeros_0f7a4_59 ic_4 ?_
    refine j_iushr hK dJ6_numberOfTrailingZeros_0f7a4_60 ?_
    refine lt_I hf (fun y2 hf => ?_)
    refine j_istore_n hK (L' := [(0, .int y2), (1, .int (x1 + (4 : Int32)))]) dJ6_numberOfTrailingZeros_0f7a4_61 rfl (by decide) rfl ?_
    exact t_J6_numberOfTrailingZeros_0f7a4_62 hK hA  hf
def f_J6_numberOfTrailingZeros_0f7a4_34 (x0 : Int32) (x1 : Int32) (S : St) : Option (Int32 × St) := (if x0 ≤ (256 : Int32) then f_J6_numberOfTrailingZeros_0f7a4_49 x0 x1 S else lt (ushr x0 (8 : Int32)) (fun y3 => f_J6_numberOfTrailingZeros_0f7a4_49 y3 (x1 + (8 : Int32)) S))
theorem t_J6_numberOfTrailingZeros_0f7a4_34 {K : CT} (hK : KO K cJ6_numberOfTrailingZeros_0f7a4 RJ6 2 1 (some .int)) {r : Int32} {S' : St} (hA : zans K = (some (.int r), S')) {x0 : Int32} {x1 : Int32} {S : St} (hf : f_J6_numberOfTrailingZeros_0f7a4_34 x0 x1 S = some (r, S')) : J K 34 [(0, .int x0), (1, .int x1)] [] S := by
  unfold f_J6_numberOfTrailingZeros_0f7a4_34 at hf
  refine j_iload_n hK dJ6_numberOfTrailingZeros_0f7a4_34 0 rfl rfl ?_
  refine j_sipush hK (256 : Int32) dJ6_numberOfTrailingZeros_0f7a4_35 si_256 ?_
  refine j_icmp_le hK 49 dJ6_numberOfTrailingZeros_0f7a4_38 (by decide) (fun hc => ?_) (fun hc => ?_)
  · replace hf := if_1 hc hf
    exact t_J6_numberOfTrailingZeros_0f7a4_49 hK hA  hf
  · replace hf := if_2 hc hf
    refine j_iinc hK (L' := [(1, .int (x1 + (8 : Int32))), (0, .int x0)]) dJ6_numberOfTrailingZeros_0f7a4_41 1 rfl (congrArg (fun y => x1 + y) ic_8) (by decide) rfl ?_
    refine j_iload_n hK dJ6_numberOfTrailingZeros_0f7a4_44 1 rfl rfl ?_
    refine j_bipush hK (8 : Int32) dJ6_numberOfTrailingZeros_0f7a4_45 bi_8 ?_
    refine j_iushr hK dJ6_numberOfTrailingZeros_0f7a4_47 ?_
    refine lt_I hf (fun y3 hf => ?_)
    refine j_istore_n hK (L' := [(0, .int y3), (1, .int (x1 + (8 : Int32)))]) dJ6_numberOfTrailingZeros_0f7a4_48 rfl (by decide) rfl ?_
    exact t_J6_numberOfTrailingZeros_0f7a4_49 hK hA  hf
def f_J6_numberOfTrailingZeros_0f7a4 (p0 : Int32) (S : St) : Option (Int32 × St) := lt ((p0 ^^^ (-1 : Int32)) &&& (p0 - (1 : Int32))) (fun y4 => (if 0 < y4 then (if y4 ≤ (65536 : Int32) then f_J6_numberOfTrailingZeros_0f7a4_34 y4 (1 : Int32) S else lt (ushr y4 (16 : Int32)) (fun y5 => f_J6_numberOfTrailingZeros_0f7a4_34 y5 ((1 : Int32) + (16 : Int32)) S)) else some ((y4 &&& (32 : Int32)), S)))
theorem c_J6_numberOfTrailingZeros_0f7a4 {p0 : Int32} {S : St} {r : Int32} {S' : St} (hf : f_J6_numberOfTrailingZeros_0f7a4 p0 S = some (r, S')) : zM yJ6_numberOfTrailingZeros_0f7a4 cJ6_numberOfTrailingZeros_0f7a4 2 1 (some .int) [.int p0] S (some (.int r)) S' := by
  refine zM_of (zpl (by decide)) (Nat.le_of_ble_eq_true rfl) rfl (fun K hK hA => ?_)
  unfold f_J6_numberOfTrailingZeros_0f7a4 at hf
  refine j_iload_n hK dJ6_numberOfTrailingZeros_0f7a4_0 0 rfl rfl ?_
  refine j_iconst hK (-1 : Int32) dJ6_numberOfTrailingZeros_0f7a4_1 ic_m1 ?_
  refine j_ixor hK dJ6_numberOfTrailingZeros_0f7a4_2 ?_
  refine j_iload_n hK dJ6_numberOfTrailingZeros_0f7a4_3 0 rfl rfl ?_
  refine j_iconst hK (1 : Int32) dJ6_numberOfTrailingZeros_0f7a4_4 ic_1 ?_
  refine j_isub hK dJ6_numberOfTrailingZeros_0f7a4_5 ?_
  refine j_iand hK dJ6_numberOfTrailingZeros_0f7a4_6 ?_
  refine lt_I hf (fun y4 hf => ?_)
  refine j_istore_n hK (L' := [(0, .int y4)]) dJ6_numberOfTrailingZeros_0f7a4_7 rfl (by decide) rfl ?_
  refine j_pc (pc' := 8) rfl ?_
  refine j_iload_n hK dJ6_numberOfTrailingZeros_0f7a4_8 0 rfl rfl ?_
  refine j_if_gt hK 17 dJ6_numberOfTrailingZeros_0f7a4_9 (by decide) (fun hc => ?_) (fun hc => ?_)
  · replace hf := if_1 hc hf
    refine j_iconst hK (1 : Int32) dJ6_numberOfTrailingZeros_0f7a4_17 ic_1 ?_
    refine j_istore_n hK (L' := [(1, .int (1 : Int32)), (0, .int y4)]) dJ6_numberOfTrailingZeros_0f7a4_18 rfl (by decide) rfl ?_
    refine j_iload_n hK dJ6_numberOfTrailingZeros_0f7a4_19 1 rfl rfl ?_
    refine j_ldcw hK (v := (65536 : Int32)) cn_J6_264 dJ6_numberOfTrailingZeros_0f7a4_20 ?_
    refine j_icmp_le hK 34 dJ6_numberOfTrailingZeros_0f7a4_23 (by decide) (fun hc => ?_) (fun hc => ?_)
    · replace hf := if_1 hc hf
      refine j_sub [1, 0] rfl ?_
      exact t_J6_numberOfTrailingZeros_0f7a4_34 hK hA  hf
    · replace hf := if_2 hc hf
      refine j_iinc hK (L' := [(1, .int ((1 : Int32) + (16 : Int32))), (0, .int y4)]) dJ6_numberOfTrailingZeros_0f7a4_26 0 rfl (congrArg (fun y => (1 : Int32) + y) ic_16) (by decide) rfl ?_
      refine j_iload_n hK dJ6_numberOfTrailingZeros_0f7a4_29 1 rfl rfl ?_
      refine j_bipush hK (16 : Int32) dJ6_numberOfTrailingZeros_0f7a4_30 bi_16 ?_
      refine j_iushr hK dJ6_numberOfTrailingZeros_0f7a4_32 ?_
      refine lt_I hf (fun y5 hf => ?_)
      refine j_istore_n hK (L' := [(0, .int y5), (1, .int ((1 : Int32) + (16 : Int32)))]) dJ6_numberOfTrailingZeros_0f7a4_33 rfl (by decide) rfl ?_
      exact t_J6_numberOfTrailingZeros_0f7a4_34 hK hA  hf
  · replace hf := if_2 hc hf
    refine j_iload_n hK dJ6_numberOfTrailingZeros_0f7a4_12 0 rfl rfl ?_
    refine j_bipush hK (32 : Int32) dJ6_numberOfTrailingZeros_0f7a4_13 bi_32 ?_
    refine j_iand hK dJ6_numberOfTrailingZeros_0f7a4_15 ?_
    exact j_iret hK dJ6_numberOfTrailingZeros_0f7a4_16 rfl (rt_I hA hf)
def f_J6_bitCount_0f7a4 (p0 : Int32) (S : St) : Option (Int32 × St) := lt (p0 - ((ushr p0 (1 : Int32)) &&& (1431655765 : Int32))) (fun y1 => lt ((y1 &&& (858993459 : Int32)) + ((ushr y1 (2 : Int32)) &&& (858993459 : Int32))) (fun y2 => lt ((y2 + (ushr y2 (4 : Int32))) &&& (252645135 : Int32)) (fun y3 => lt (y3 + (ushr y3 (8 : Int32))) (fun y4 => lt (y4 + (ushr y4 (16 : Int32))) (fun y5 => some ((y5 &&& (63 : Int32)), S))))))
theorem c_J6_bitCount_0f7a4 {p0 : Int32} {S : St} {r : Int32} {S' : St} (hf : f_J6_bitCount_0f7a4 p0 S = some (r, S')) : zM yJ6_bitCount_0f7a4 cJ6_bitCount_0f7a4 1 1 (some .int) [.int p0] S (some (.int r)) S' := by
  refine zM_of (zpl (by decide)) (Nat.le_of_ble_eq_true rfl) rfl (fun K hK hA => ?_)
  unfold f_J6_bitCount_0f7a4 at hf
  refine j_iload_n hK dJ6_bitCount_0f7a4_0 0 rfl rfl ?_
  refine j_iload_n hK dJ6_bitCount_0f7a4_1 0 rfl rfl ?_
  refine j_iconst hK (1 : Int32) dJ6_bitCount_0f7a4_2 ic_1 ?_
  refine j_iushr hK dJ6_bitCount_0f7a4_3 ?_
  refine j_ldcw hK (v := (1431655765 : Int32)) cn_J6_265 dJ6_bitCount_0f7a4_4 ?_
  refine j_iand hK dJ6_bitCount_0f7a4_7 ?_
  refine j_isub hK dJ6_bitCount_0f7a4_8 ?_
  refine lt_I hf (fun y1 hf => ?_)
  refine j_istore_n hK (L' := [(0, .int y1)]) dJ6_bitCount_0f7a4_9 rfl (by decide) rfl ?_
  refine j_pc (pc' := 10) rfl ?_
  refine j_iload_n hK dJ6_bitCount_0f7a4_10 0 rfl rfl ?_
  refine j_ldcw hK (v := (858993459 : Int32)) cn_J6_266 dJ6_bitCount_0f7a4_11 ?_
  refine j_iand hK dJ6_bitCount_0f7a4_14 ?_
  refine j_iload_n hK dJ6_bitCount_0f7a4_15 0 rfl rfl ?_
  refine j_iconst hK (2 : Int32) dJ6_bitCount_0f7a4_16 ic_2 ?_
  refine j_iushr hK dJ6_bitCount_0f7a4_17 ?_
  refine j_ldcw hK (v := (858993459 : Int32)) cn_J6_266 dJ6_bitCount_0f7a4_18 ?_
  refine j_iand hK dJ6_bitCount_0f7a4_21 ?_
  refine j_pc (pc' := 22) rfl ?_
  refine j_iadd hK dJ6_bitCount_0f7a4_22 ?_
  refine lt_I hf (fun y2 hf => ?_)
  refine j_istore_n hK (L' := [(0, .int y2)]) dJ6_bitCount_0f7a4_23 rfl (by decide) rfl ?_
  refine j_iload_n hK dJ6_bitCount_0f7a4_24 0 rfl rfl ?_
  refine j_iload_n hK dJ6_bitCount_0f7a4_25 0 rfl rfl ?_
  refine j_iconst hK (4 : Int32) dJ6_bitCount_0f7a4_26 ic_4 ?_
  refine j_iushr hK dJ6_bitCount_0f7a4_27 ?_
  refine j_iadd hK dJ6_bitCount_0f7a4_28 ?_
  refine j_ldcw hK (v := (252645135 : Int32)) cn_J6_267 dJ6_bitCount_0f7a4_29 ?_
  refine j_pc (pc' := 32) rfl ?_
  refine j_iand hK dJ6_bitCount_0f7a4_32 ?_
  refine lt_I hf (fun y3 hf => ?_)
  refine j_istore_n hK (L' := [(0, .int y3)]) dJ6_bitCount_0f7a4_33 rfl (by decide) rfl ?_
  refine j_iload_n hK dJ6_bitCount_0f7a4_34 0 rfl rfl ?_
  refine j_iload_n hK dJ6_bitCount_0f7a4_35 0 rfl rfl ?_
  refine j_bipush hK (8 : Int32) dJ6_bitCount_0f7a4_36 bi_8 ?_
  refine j_iushr hK dJ6_bitCount_0f7a4_38 ?_
  refine j_iadd hK dJ6_bitCount_0f7a4_39 ?_
  refine lt_I hf (fun y4 hf => ?_)
  refine j_istore_n hK (L' := [(0, .int y4)]) dJ6_bitCount_0f7a4_40 rfl (by decide) rfl ?_
  refine j_pc (pc' := 41) rfl ?_
  refine j_iload_n hK dJ6_bitCount_0f7a4_41 0 rfl rfl ?_
  refine j_iload_n hK dJ6_bitCount_0f7a4_42 0 rfl rfl ?_
  refine j_bipush hK (16 : Int32) dJ6_bitCount_0f7a4_43 bi_16 ?_
  refine j_iushr hK dJ6_bitCount_0f7a4_45 ?_
  refine j_iadd hK dJ6_bitCount_0f7a4_46 ?_
  refine lt_I hf (fun y5 hf => ?_)
  refine j_istore_n hK (L' := [(0, .int y5)]) dJ6_bitCount_0f7a4_47 rfl (by decide) rfl ?_
  refine j_iload_n hK dJ6_bitCount_0f7a4_48 0 rfl rfl ?_
  refine j_bipush hK (63 : Int32) dJ6_bitCount_0f7a4_49 bi_63 ?_
  refine j_pc (pc' := 51) rfl ?_
  refine j_iand hK dJ6_bitCount_0f7a4_51 ?_
  exact j_iret hK dJ6_bitCount_0f7a4_52 rfl (rt_I hA hf)
def f_J9_floorMod_7cf53 (p0 : Int32) (p1 : Int32) (S : St) : Option (Int32 × St) := if ¬ p1 = 0 then lt (p0 - p0 / p1 * p1) (fun y2 => (if 0 ≤ (p0 ^^^ p1) then some (y2, S) else (if y2 = 0 then some (y2, S) else some ((y2 + p1), S)))) else none
theorem c_J9_floorMod_7cf53 {p0 : Int32} {p1 : Int32} {S : St} {r : Int32} {S' : St} (hf : f_J9_floorMod_7cf53 p0 p1 S = some (r, S')) : zM yJ9_floorMod_7cf53 cJ9_floorMod_7cf53 3 1 (some .int) [.int p0, .int p1] S (some (.int r)) S' := by
  refine zM_of (by decide +kernel) (Nat.le_of_ble_eq_true rfl) rfl (fun K hK hA => ?_)
  unfold f_J9_floorMod_7cf53 at hf
  refine j_iload_n hK dJ9_floorMod_7cf53_0 0 rfl rfl ?_
  refine j_iload_n hK dJ9_floorMod_7cf53_1 1 rfl rfl ?_
  obtain ⟨hn1, hf⟩ := gd hf
  refine j_irem hK dJ9_floorMod_7cf53_2 hn1 ?_
  refine lt_I hf (fun y2 hf => ?_)
  refine j_istore_n hK (L' := [(2, .int y2), (0, .int p0), (1, .int p1)]) dJ9_floorMod_7cf53_3 rfl (by decide) rfl ?_
  refine j_iload_n hK dJ9_floorMod_7cf53_4 1 rfl rfl ?_
  refine j_iload_n hK dJ9_floorMod_7cf53_5 2 rfl rfl ?_
  refine j_ixor hK dJ9_floorMod_7cf53_6 ?_
  refine j_if_ge hK 18 dJ9_floorMod_7cf53_7 (by decide) (fun hc => ?_) (fun hc => ?_)
  · replace hf := if_1 hc hf
    refine j_iload_n hK dJ9_floorMod_7cf53_18 0 rfl rfl ?_
    exact j_iret hK dJ9_floorMod_7cf53_19 rfl (rt_I hA hf)
  · replace hf := if_2 hc hf
    refine j_iload_n hK dJ9_floorMod_7cf53_10 0 rfl rfl ?_
    refine j_if_eq hK 18 dJ9_floorMod_7cf53_11 (by decide) (fun hc => ?_) (fun hc => ?_)
    · replace hf := if_1 hc hf
      refine j_iload_n hK dJ9_floorMod_7cf53_18 0 rfl rfl ?_
      exact j_iret hK dJ9_floorMod_7cf53_19 rfl (rt_I hA hf)
    · replace hf := if_2 hc hf
      refine j_iload_n hK dJ9_floorMod_7cf53_14 0 rfl rfl ?_
      refine j_iload_n hK dJ9_floorMod_7cf53_15 2 rfl rfl ?_
      refine j_iadd hK dJ9_floorMod_7cf53_16 ?_
      exact j_iret hK dJ9_floorMod_7cf53_17 rfl (rt_I hA hf)
