def f_X10_wearToldBy_20 (s0 : Int32) (S : St) : Option (Int32 × St) := some ((mxI (0 : Int32) (mnI (9 : Int32) s0)), S)
theorem t_X10_wearToldBy_20 {K : CT} (hK : KO K cX10_wearToldBy RX10 3 1 (some .int)) {r : Int32} {S' : St} (hA : zans K (some (.int r), S')) {s0 : Int32} {S : St} (hf : f_X10_wearToldBy_20 s0 S = some (r, S')) : J K 20 [] [.int s0] S := by
  unfold f_X10_wearToldBy_20 at hf
  refine j_istore_n hK (L' := [(2, .int s0)]) dX10_wearToldBy_20 rfl (by decide) rfl ?_
  refine j_iconst hK (0 : Int32) dX10_wearToldBy_21 ic_0 ?_
  refine j_bipush hK (9 : Int32) dX10_wearToldBy_22 bi_9 ?_
  refine j_iload_n hK dX10_wearToldBy_24 0 rfl rfl ?_
  refine j_min hK ml_X10_170 dX10_wearToldBy_25 (by decide) (Nat.le_of_ble_eq_true rfl) ?_
  refine j_max hK ml_X10_175 dX10_wearToldBy_28 (by decide) (Nat.le_of_ble_eq_true rfl) ?_
  exact j_iret hK dX10_wearToldBy_31 rfl (rt_I hA hf)
def f_X10_wearToldBy (p0 : Int32) (p1 : Int32) (S : St) : Option (Int32 × St) := (if p0 = 0 then f_X10_wearToldBy_20 (p1).toInt8.toInt32 S else (if p0 = (1 : Int32) then f_X10_wearToldBy_20 (p1).toInt16.toInt32 S else f_X10_wearToldBy_20 p1 S))
theorem c_X10_wearToldBy {p0 : Int32} {p1 : Int32} {S : St} {r : Int32} {S' : St} (hf : f_X10_wearToldBy p0 p1 S = some (r, S')) : zM yX10_wearToldBy cX10_wearToldBy 3 1 (some .int) [.int p0, .int p1] S (some (.int r)) S' := by
  refine zM_of (zpl (by decide)) (Nat.le_of_ble_eq_true rfl) rfl (fun K hK hA => ?_)
  unfold f_X10_wearToldBy at hf
  refine j_iload_n hK dX10_wearToldBy_0 0 rfl rfl ?_
  refine j_if_ne hK 9 dX10_wearToldBy_1 (by decide) (fun hc => ?_) (fun hc => ?_)
  · replace hf := if_2 hc hf
    refine j_iload_n hK dX10_wearToldBy_9 0 rfl rfl ?_
    refine j_iconst hK (1 : Int32) dX10_wearToldBy_10 ic_1 ?_
    refine j_icmp_ne hK 19 dX10_wearToldBy_11 (by decide) (fun hc => ?_) (fun hc => ?_)
    · replace hf := if_2 hc hf
      refine j_iload_n hK dX10_wearToldBy_19 1 rfl rfl ?_
      refine j_sub [] rfl ?_
      exact t_X10_wearToldBy_20 hK hA  hf
    · replace hf := if_1 hc hf
      refine j_iload_n hK dX10_wearToldBy_14 1 rfl rfl ?_
      refine j_i2s hK dX10_wearToldBy_15 ?_
      refine j_goto hK 20 dX10_wearToldBy_16 (by decide) ?_
      refine j_sub [] rfl ?_
      exact t_X10_wearToldBy_20 hK hA  hf
  · replace hf := if_1 hc hf
    refine j_iload_n hK dX10_wearToldBy_4 1 rfl rfl ?_
    refine j_i2b hK dX10_wearToldBy_5 ?_
    refine j_goto hK 20 dX10_wearToldBy_6 (by decide) ?_
    refine j_sub [] rfl ?_
    exact t_X10_wearToldBy_20 hK hA  hf
def f_X0_wearOfAll_4b (e : Int32 × Int32 → St → Option (Int32 × St)) (k : Int32 × Int32 → St → Option (Int32 × St)) (v : Int32 × Int32) (S : St) : Option (Int32 × St) := (if (gI S 3 2) ≤ v.2 then e (v.1, v.2) S else if inb v.2 12 then lt (v.1 + (gI S 9 v.2.toNatClampNeg)) (fun y2 => k (y2, (v.2 + (1 : Int32))) S) else none)
theorem t_X0_wearOfAll_4 {K : CT} (hK : KO K cX0_wearOfAll RX0 3 1 (some .int)) {r : Int32} {S' : St} (hA : zans K (some (.int r), S')) {e : Int32 × Int32 → St → Option (Int32 × St)} (he : ∀ (v : Int32 × Int32) (S : St), e v S = some (r, S') → J K 30 [(1, .int v.1)] [] S) : ∀ (n : Nat) (v : Int32 × Int32) (S : St), lp (f_X0_wearOfAll_4b  e) n v S = some (r, S') → J K 4 [(0, .ref 3), (1, .int v.1), (2, .int v.2)] [] S :=
  lp_J (P := fun (v : Int32 × Int32) (S : St) => J K 4 [(0, .ref 3), (1, .int v.1), (2, .int v.2)] [] S) (fun k hk v S hf => by
    unfold f_X0_wearOfAll_4b at hf
    refine j_iload_n hK dX0_wearOfAll_4 2 rfl rfl ?_
    refine j_aload_n hK dX0_wearOfAll_5 0 rfl rfl ?_
    refine j_getI hK fl_X0_18 dX0_wearOfAll_6 zo_3 zf_0_2 ?_
    refine j_icmp_ge hK 30 dX0_wearOfAll_9 (by decide) (fun hc => ?_) (fun hc => ?_)
    · replace hf := if_1 hc hf
      refine j_sub [1] rfl ?_
      exact he _ _ hf
    · replace hf := if_2 hc hf
      refine j_iload_n hK dX0_wearOfAll_12 1 rfl rfl ?_
      refine j_aload_n hK dX0_wearOfAll_13 0 rfl rfl ?_
      refine j_getR hK fl_X0_25 dX0_wearOfAll_14 zo_3 zf_0_3 zr_3_3 ?_
      refine j_getR hK fl_X0_35 dX0_wearOfAll_17 zo_6 zf_7_2 zr_6_2 ?_
      refine j_iload_n hK dX0_wearOfAll_20 2 rfl rfl ?_
      obtain ⟨hi1, hf⟩ := gd hf
      refine k_iald hK dX0_wearOfAll_21 zb_9 hi1 rfl ?_
      refine j_iadd hK dX0_wearOfAll_22 ?_
      refine j_pc (pc' := 23) rfl ?_
      refine lt_I hf (fun y2 hf => ?_)
      refine j_istore_n hK (L' := [(1, .int y2), (0, .ref 3), (2, .int v.2)]) dX0_wearOfAll_23 rfl (by decide) rfl ?_
      refine j_iinc hK (L' := [(2, .int (v.2 + (1 : Int32))), (1, .int y2), (0, .ref 3)]) dX0_wearOfAll_24 2 rfl (congrArg (fun y => v.2 + y) ic_1) (by decide) rfl ?_
      refine j_goto hK 4 dX0_wearOfAll_27 (by decide) ?_
      refine j_sub [2, 1, 0] rfl ?_
      exact hk _ _ hf)
def f_X0_wearOfAll (S : St) : Option (Int32 × St) := lp (f_X0_wearOfAll_4b  (fun v3 S4 => some (v3.1, S4))) FU ((0 : Int32), (0 : Int32)) S
theorem c_X0_wearOfAll {S : St} {r : Int32} {S' : St} (hf : f_X0_wearOfAll S = some (r, S')) : zM yX0_wearOfAll cX0_wearOfAll 3 1 (some .int) [.ref 3] S (some (.int r)) S' := by
  refine zM_of (zpl (by decide)) (Nat.le_of_ble_eq_true rfl) rfl (fun K hK hA => ?_)
  unfold f_X0_wearOfAll at hf
  refine j_iconst hK (0 : Int32) dX0_wearOfAll_0 ic_0 ?_
  refine j_istore_n hK (L' := [(1, .int (0 : Int32)), (0, .ref 3)]) dX0_wearOfAll_1 rfl (by decide) rfl ?_
  refine j_iconst hK (0 : Int32) dX0_wearOfAll_2 ic_0 ?_
  refine j_istore_n hK (L' := [(2, .int (0 : Int32)), (1, .int (0 : Int32)), (0, .ref 3)]) dX0_wearOfAll_3 rfl (by decide) rfl ?_
  refine j_sub [2, 1, 0] rfl ?_
  refine t_X0_wearOfAll_4 hK hA  (fun v3 S4 hf => ?_) _ _ _ hf
  refine j_iload_n hK dX0_wearOfAll_30 0 rfl rfl ?_
  exact j_iret hK dX0_wearOfAll_31 rfl (rt_I hA hf)
def f_X10_sheet_80 (x1 : Int32) (x2 : Int32) (x4 : Int32) (x5 : Int32) (x6 : Int32) (s1 : Int32) (s2 : Int32) (k e : Int32 × Int32 → St → Option (Int32 × St)) (S : St) : Option (Int32 × St) := if inb s1 12 then lt (sI S 9 s1.toNatClampNeg s2) (fun S2 => lt (x5 + x4) (fun y3 => k (y3, (x6 + (1 : Int32))) S2)) else none
theorem t_X10_sheet_80 {K : CT} (hK : KO K cX10_sheet RX10 7 2 (some .int)) {r : Int32} {S' : St} (hA : zans K (some (.int r), S')) {x1 : Int32} {x2 : Int32} {x4 : Int32} {x5 : Int32} {x6 : Int32} {s1 : Int32} {s2 : Int32} {k e : Int32 × Int32 → St → Option (Int32 × St)} (hk : ∀ (v : Int32 × Int32) (S : St), k v S = some (r, S') → J K 35 [(0, .ref 0), (1, .int x1), (2, .int x2), (4, .int x4), (5, .int v.1), (6, .int v.2)] [] S) (he : ∀ (v : Int32 × Int32) (S : St), e v S = some (r, S') → J K 94 [(0, .ref 0), (1, .int x1)] [] S) {S : St} (hf : f_X10_sheet_80 x1 x2 x4 x5 x6 s1 s2 k e S = some (r, S')) : J K 80 [(0, .ref 0), (1, .int x1), (2, .int x2), (4, .int x4), (5, .int x5), (6, .int x6)] [.int s2, .int s1, .ref 9] S := by
  unfold f_X10_sheet_80 at hf
  obtain ⟨hi1, hf⟩ := gd hf
  refine k_iast hK dX10_sheet_80 zb_9 hi1 rfl ?_
  refine lt_S hf (fun S2 hf => ?_)
  refine j_iload hK dX10_sheet_81 4 rfl ?_
  refine j_iload hK dX10_sheet_83 3 rfl ?_
  refine j_iadd hK dX10_sheet_85 ?_
  refine lt_I hf (fun y3 hf => ?_)
  refine j_istore hK (L' := [(5, .int y3), (0, .ref 0), (1, .int x1), (2, .int x2), (4, .int x4), (6, .int x6)]) dX10_sheet_86 (by decide) rfl ?_
  refine j_iinc hK (L' := [(6, .int (x6 + (1 : Int32))), (5, .int y3), (0, .ref 0), (1, .int x1), (2, .int x2), (4, .int x4)]) dX10_sheet_88 5 rfl (congrArg (fun y => x6 + y) ic_1) (by decide) rfl ?_
  refine j_goto hK 35 dX10_sheet_91 (by decide) ?_
  refine j_sub [2, 3, 4, 5, 1, 0] rfl ?_
  exact hk _ _ hf
def f_X10_sheet_70 (x1 : Int32) (x2 : Int32) (x4 : Int32) (x5 : Int32) (x6 : Int32) (s1 : Int32) (k e : Int32 × Int32 → St → Option (Int32 × St)) (S : St) : Option (Int32 × St) := f_X10_sheet_80 x1 x2 x4 x5 x6 s1 (0 : Int32) k e S
theorem t_X10_sheet_70 {K : CT} (hK : KO K cX10_sheet RX10 7 2 (some .int)) {r : Int32} {S' : St} (hA : zans K (some (.int r), S')) {x1 : Int32} {x2 : Int32} {x4 : Int32} {x5 : Int32} {x6 : Int32} {s1 : Int32} {k e : Int32 × Int32 → St → Option (Int32 × St)} (hk : ∀ (v : Int32 × Int32) (S : St), k v S = some (r, S') → J K 35 [(0, .ref 0), (1, .int x1), (2, .int x2), (4, .int x4), (5, .int v.1), (6, .int v.2)] [] S) (he : ∀ (v : Int32 × Int32) (S : St), e v S = some (r, S') → J K 94 [(0, .ref 0), (1, .int x1)] [] S) {S : St} (hf : f_X10_sheet_70 x1 x2 x4 x5 x6 s1 k e S = some (r, S')) : J K 70 [(0, .ref 0), (1, .int x1), (2, .int x2), (4, .int x4), (5, .int x5), (6, .int x6)] [.int s1, .ref 9] S := by
  unfold f_X10_sheet_70 at hf
  refine j_iconst hK (0 : Int32) dX10_sheet_70 ic_0 ?_
  refine j_goto hK 80 dX10_sheet_71 (by decide) ?_
  exact t_X10_sheet_80 hK hA hk he hf
def f_X10_sheet_35b (x1 : Int32) (x2 : Int32) (x4 : Int32) (e : Int32 × Int32 → St → Option (Int32 × St)) (k : Int32 × Int32 → St → Option (Int32 × St)) (v : Int32 × Int32) (S : St) : Option (Int32 × St) := (if (gI S 3 2) ≤ v.2 then e (v.1, v.2) S else (if x1 = (3 : Int32) then f_X10_sheet_70 x1 x2 x4 v.1 v.2 v.2 k e S else (if v.2 < x2 then bd (f_X10_wearToldBy x1 v.1 S) (fun r4 S5 => f_X10_sheet_80 x1 x2 x4 v.1 v.2 v.2 r4 k e S5) else f_X10_sheet_70 x1 x2 x4 v.1 v.2 v.2 k e S)))
theorem t_X10_sheet_35 {K : CT} (hK : KO K cX10_sheet RX10 7 2 (some .int)) {r : Int32} {S' : St} (hA : zans K (some (.int r), S')) {x1 : Int32} {x2 : Int32} {x4 : Int32} {e : Int32 × Int32 → St → Option (Int32 × St)} (he : ∀ (v : Int32 × Int32) (S : St), e v S = some (r, S') → J K 94 [(0, .ref 0), (1, .int x1)] [] S) : ∀ (n : Nat) (v : Int32 × Int32) (S : St), lp (f_X10_sheet_35b x1 x2 x4 e) n v S = some (r, S') → J K 35 [(0, .ref 0), (1, .int x1), (2, .int x2), (4, .int x4), (5, .int v.1), (6, .int v.2)] [] S :=
  lp_J (P := fun (v : Int32 × Int32) (S : St) => J K 35 [(0, .ref 0), (1, .int x1), (2, .int x2), (4, .int x4), (5, .int v.1), (6, .int v.2)] [] S) (fun k hk v S hf => by
    unfold f_X10_sheet_35b at hf
    refine j_iload hK dX10_sheet_35 5 rfl ?_
    refine j_aload_n hK dX10_sheet_37 0 rfl rfl ?_
    refine j_getR hK fl_X10_19 dX10_sheet_38 zo_0 zf_10_1 zr_0_1 ?_
    refine j_getI hK fl_X10_95 dX10_sheet_41 zo_3 zf_0_2 ?_
    refine j_icmp_ge hK 94 dX10_sheet_44 (by decide) (fun hc => ?_) (fun hc => ?_)
    · replace hf := if_1 hc hf
      refine j_sub [0, 1] rfl ?_
      exact he _ _ hf
    · replace hf := if_2 hc hf
      refine j_aload_n hK dX10_sheet_47 0 rfl rfl ?_
      refine j_getR hK fl_X10_19 dX10_sheet_48 zo_0 zf_10_1 zr_0_1 ?_
      refine j_getR hK fl_X10_129 dX10_sheet_51 zo_3 zf_0_3 zr_3_3 ?_
      refine j_getR hK fl_X10_141 dX10_sheet_54 zo_6 zf_7_2 zr_6_2 ?_
      refine j_iload hK dX10_sheet_57 5 rfl ?_
      refine j_iload_n hK dX10_sheet_59 1 rfl rfl ?_
      refine j_iconst hK (3 : Int32) dX10_sheet_60 ic_3 ?_
      refine j_pc (pc' := 61) rfl ?_
      refine j_icmp_eq hK 70 dX10_sheet_61 (by decide) (fun hc => ?_) (fun hc => ?_)
      · replace hf := if_1 hc hf
        exact t_X10_sheet_70 hK hA hk he hf
      · replace hf := if_2 hc hf
        refine j_iload hK dX10_sheet_64 5 rfl ?_
        refine j_iload_n hK dX10_sheet_66 2 rfl rfl ?_
        refine j_icmp_lt hK 74 dX10_sheet_67 (by decide) (fun hc => ?_) (fun hc => ?_)
        · replace hf := if_1 hc hf
          refine j_iload_n hK dX10_sheet_74 1 rfl rfl ?_
          refine j_iload hK dX10_sheet_75 4 rfl ?_
          obtain ⟨r4, S5, h6, hf⟩ := bd_J hf
          refine k_callSi hK (c_X10_wearToldBy h6) dX10_sheet_77 ml_X10_162 ms_X10_wearToldBy in_X10 mc_X10_wearToldBy hy_X10_wearToldBy ⟨by decide, by decide⟩ rfl (Nat.le_of_ble_eq_true rfl) ?_
          exact t_X10_sheet_80 hK hA hk he hf
        · replace hf := if_2 hc hf
          exact t_X10_sheet_70 hK hA hk he hf)
def f_X10_sheet_29 (x1 : Int32) (x2 : Int32) (x3 : Int32) (x4 : Int32) (S : St) : Option (Int32 × St) := lp (f_X10_sheet_35b x1 x2 x4 (fun v7 S8 => (if x1 = (3 : Int32) then some ((-3 : Int32), S8) else bd (f_X0_wearOfAll S8) (fun r9 S10 => some (r9, S10))))) FU (x3, (0 : Int32)) S
theorem t_X10_sheet_29 {K : CT} (hK : KO K cX10_sheet RX10 7 2 (some .int)) {r : Int32} {S' : St} (hA : zans K (some (.int r), S')) {x1 : Int32} {x2 : Int32} {x3 : Int32} {x4 : Int32} {S : St} (hf : f_X10_sheet_29 x1 x2 x3 x4 S = some (r, S')) : J K 29 [(0, .ref 0), (1, .int x1), (2, .int x2), (3, .int x3), (4, .int x4)] [] S := by
  unfold f_X10_sheet_29 at hf
  refine j_iload_n hK dX10_sheet_29 3 rfl rfl ?_
  refine j_istore hK (L' := [(5, .int x3), (0, .ref 0), (1, .int x1), (2, .int x2), (3, .int x3), (4, .int x4)]) dX10_sheet_30 (by decide) rfl ?_
  refine j_iconst hK (0 : Int32) dX10_sheet_32 ic_0 ?_
  refine j_istore hK (L' := [(6, .int (0 : Int32)), (5, .int x3), (0, .ref 0), (1, .int x1), (2, .int x2), (3, .int x3), (4, .int x4)]) dX10_sheet_33 (by decide) rfl ?_
  refine j_sub [2, 3, 4, 6, 1, 0] rfl ?_
  refine t_X10_sheet_35 hK hA  (fun v7 S8 hf => ?_) _ _ _ hf
  refine j_iload_n hK dX10_sheet_94 1 rfl rfl ?_
  refine j_iconst hK (3 : Int32) dX10_sheet_95 ic_3 ?_
  refine j_icmp_ne hK 104 dX10_sheet_96 (by decide) (fun hc => ?_) (fun hc => ?_)
  · replace hf := if_2 hc hf
    refine j_aload_n hK dX10_sheet_104 0 rfl rfl ?_
    refine j_getR hK fl_X10_19 dX10_sheet_105 zo_0 zf_10_1 zr_0_1 ?_
    obtain ⟨r9, S10, h11, hf⟩ := bd_J hf
    refine k_callVi hK (c_X0_wearOfAll h11) dX10_sheet_108 zclX0 zo_3 ml_X10_166 mi_X0_wearOfAll mx_X0_wearOfAll in_X0 mc_X0_wearOfAll hy_X0_wearOfAll ⟨by decide, by decide⟩ rfl (Nat.le_of_ble_eq_true rfl) ?_
    exact j_iret hK dX10_sheet_111 rfl (rt_I hA hf)
  · replace hf := if_1 hc hf
    refine j_bipush hK (-3 : Int32) dX10_sheet_99 bi_m3 ?_
    refine j_goto hK 111 dX10_sheet_101 (by decide) ?_
    exact j_iret hK dX10_sheet_111 rfl (rt_I hA hf)
def f_X10_sheet (p1 : Int32) (p2 : Int32) (p3 : Int32) (p4 : Int32) (S : St) : Option (Int32 × St) := (if p1 < 0 then some ((-1 : Int32), S) else (if (3 : Int32) < p1 then some ((-1 : Int32), S) else (if p2 ≤ (12 : Int32) then (if p1 = (3 : Int32) then f_X10_sheet_29 p1 p2 p3 p4 S else (if 0 ≤ p2 then f_X10_sheet_29 p1 p2 p3 p4 S else some ((-2 : Int32), S))) else some ((-1 : Int32), S))))
theorem c_X10_sheet {p1 : Int32} {p2 : Int32} {p3 : Int32} {p4 : Int32} {S : St} {r : Int32} {S' : St} (hf : f_X10_sheet p1 p2 p3 p4 S = some (r, S')) : zM yX10_sheet cX10_sheet 7 2 (some .int) [.ref 0, .int p1, .int p2, .int p3, .int p4] S (some (.int r)) S' := by
  refine zM_of (zpl (by decide)) (Nat.le_of_ble_eq_true rfl) rfl (fun K hK hA => ?_)
  unfold f_X10_sheet at hf
  refine j_iload_n hK dX10_sheet_0 1 rfl rfl ?_
  refine j_if_lt hK 15 dX10_sheet_1 (by decide) (fun hc => ?_) (fun hc => ?_)
  · replace hf := if_1 hc hf
    refine j_iconst hK (-1 : Int32) dX10_sheet_15 ic_m1 ?_
    exact j_iret hK dX10_sheet_16 rfl (rt_I hA hf)
  · replace hf := if_2 hc hf
    refine j_iload_n hK dX10_sheet_4 1 rfl rfl ?_
    refine j_iconst hK (3 : Int32) dX10_sheet_5 ic_3 ?_
    refine j_icmp_gt hK 15 dX10_sheet_6 (by decide) (fun hc => ?_) (fun hc => ?_)
    · replace hf := if_1 hc hf
      refine j_iconst hK (-1 : Int32) dX10_sheet_15 ic_m1 ?_
      exact j_iret hK dX10_sheet_16 rfl (rt_I hA hf)
    · replace hf := if_2 hc hf
      refine j_iload_n hK dX10_sheet_9 2 rfl rfl ?_
      refine j_bipush hK (12 : Int32) dX10_sheet_10 bi_12 ?_
      refine j_icmp_le hK 17 dX10_sheet_12 (by decide) (fun hc => ?_) (fun hc => ?_)
      · replace hf := if_1 hc hf
        refine j_iload_n hK dX10_sheet_17 1 rfl rfl ?_
        refine j_iconst hK (3 : Int32) dX10_sheet_18 ic_3 ?_
        refine j_icmp_eq hK 29 dX10_sheet_19 (by decide) (fun hc => ?_) (fun hc => ?_)
        · replace hf := if_1 hc hf
          exact t_X10_sheet_29 hK hA  hf
        · replace hf := if_2 hc hf
          refine j_iload_n hK dX10_sheet_22 2 rfl rfl ?_
          refine j_if_ge hK 29 dX10_sheet_23 (by decide) (fun hc => ?_) (fun hc => ?_)
          · replace hf := if_1 hc hf
            exact t_X10_sheet_29 hK hA  hf
          · replace hf := if_2 hc hf
            refine j_bipush hK (-2 : Int32) dX10_sheet_26 bi_m2 ?_
            exact j_iret hK dX10_sheet_28 rfl (rt_I hA hf)
      · replace hf := if_2 hc hf
        refine j_iconst hK (-1 : Int32) dX10_sheet_15 ic_m1 ?_
        exact j_iret hK dX10_sheet_16 rfl (rt_I hA hf)
def f_X0_acrossFrom (p1 : Int32) (p2 : Int32) (S : St) : Option (Int32 × St) := if inb p2 12 then (if (gI S 4 p2.toNatClampNeg) = p1 then if inb p2 12 then some ((gI S 5 p2.toNatClampNeg), S) else none else if inb p2 12 then some ((gI S 4 p2.toNatClampNeg), S) else none) else none
theorem c_X0_acrossFrom {p1 : Int32} {p2 : Int32} {S : St} {r : Int32} {S' : St} (hf : f_X0_acrossFrom p1 p2 S = some (r, S')) : zM yX0_acrossFrom cX0_acrossFrom 3 1 (some .int) [.ref 3, .int p1, .int p2] S (some (.int r)) S' := by
  refine zM_of (zpl (by decide)) (Nat.le_of_ble_eq_true rfl) rfl (fun K hK hA => ?_)
  unfold f_X0_acrossFrom at hf
  refine j_aload_n hK dX0_acrossFrom_0 0 rfl rfl ?_
  refine j_getR hK fl_X0_9 dX0_acrossFrom_1 zo_3 zf_0_0 zr_3_0 ?_
  refine j_iload_n hK dX0_acrossFrom_4 2 rfl rfl ?_
  obtain ⟨hi1, hf⟩ := gd hf
  refine k_iald hK dX0_acrossFrom_5 zb_4 hi1 rfl ?_
  refine j_iload_n hK dX0_acrossFrom_6 1 rfl rfl ?_
  refine j_icmp_ne hK 19 dX0_acrossFrom_7 (by decide) (fun hc => ?_) (fun hc => ?_)
  · replace hf := if_2 hc hf
    refine j_aload_n hK dX0_acrossFrom_19 0 rfl rfl ?_
    refine j_getR hK fl_X0_9 dX0_acrossFrom_20 zo_3 zf_0_0 zr_3_0 ?_
    refine j_iload_n hK dX0_acrossFrom_23 2 rfl rfl ?_
    obtain ⟨hi2, hf⟩ := gd hf
    refine k_iald hK dX0_acrossFrom_24 zb_4 hi2 rfl ?_
    exact j_iret hK dX0_acrossFrom_25 rfl (rt_I hA hf)
  · replace hf := if_1 hc hf
    refine j_aload_n hK dX0_acrossFrom_10 0 rfl rfl ?_
    refine j_getR hK fl_X0_15 dX0_acrossFrom_11 zo_3 zf_0_1 zr_3_1 ?_
    refine j_iload_n hK dX0_acrossFrom_14 2 rfl rfl ?_
    obtain ⟨hi3, hf⟩ := gd hf
    refine k_iald hK dX0_acrossFrom_15 zb_5 hi3 rfl ?_
    refine j_goto hK 25 dX0_acrossFrom_16 (by decide) ?_
    exact j_iret hK dX0_acrossFrom_25 rfl (rt_I hA hf)
def f_J6_numberOfTrailingZeros_0f7a4_74 (x0 : Int32) (x1 : Int32) (S : St) : Option (Int32 × St) := some ((x1 + (ushr x0 (1 : Int32))), S)
theorem t_J6_numberOfTrailingZeros_0f7a4_74 {K : CT} (hK : KO K cJ6_numberOfTrailingZeros_0f7a4 RJ6 2 1 (some .int)) {r : Int32} {S' : St} (hA : zans K (some (.int r), S')) {x0 : Int32} {x1 : Int32} {S : St} (hf : f_J6_numberOfTrailingZeros_0f7a4_74 x0 x1 S = some (r, S')) : J K 74 [(0, .int x0), (1, .int x1)] [] S := by
  unfold f_J6_numberOfTrailingZeros_0f7a4_74 at hf
  refine j_iload_n hK dJ6_numberOfTrailingZeros_0f7a4_74 1 rfl rfl ?_
  refine j_iload_n hK dJ6_numberOfTrailingZeros_0f7a4_75 0 rfl rfl ?_
  refine j_iconst hK (1 : Int32) dJ6_numberOfTrailingZeros_0f7a4_76 ic_1 ?_
  refine j_iushr hK dJ6_numberOfTrailingZeros_0f7a4_77 ?_
  refine j_iadd hK dJ6_numberOfTrailingZeros_0f7a4_78 ?_
  exact j_iret hK dJ6_numberOfTrailingZeros_0f7a4_79 rfl (rt_I hA hf)
def f_J6_numberOfTrailingZeros_0f7a4_62 (x0 : Int32) (x1 : Int32) (S : St) : Option (Int32 × St) := (if x0 ≤ (4 : Int32) then f_J6_numberOfTrailingZeros_0f7a4_74 x0 x1 S else lt (ushr x0 (2 : Int32)) (fun y1 => f_J6_numberOfTrailingZeros_0f7a4_74 y1 (x1 + (2 : Int32)) S))
theorem t_J6_numberOfTrailingZeros_0f7a4_62 {K : CT} (hK : KO K cJ6_numberOfTrailingZeros_0f7a4 RJ6 2 1 (some .int)) {r : Int32} {S' : St} (hA : zans K (some (.int r), S')) {x0 : Int32} {x1 : Int32} {S : St} (hf : f_J6_numberOfTrailingZeros_0f7a4_62 x0 x1 S = some (r, S')) : J K 62 [(0, .int x0), (1, .int x1)] [] S := by
  unfold f_J6_numberOfTrailingZeros_0f7a4_62 at hf
  refine j_iload_n hK dJ6_numberOfTrailingZeros_0f7a4_62 0 rfl rfl ?_
  refine j_iconst hK (4 : Int32) dJ6_numberOfTrailingZeros_0f7a4_63 ic_4 ?_
  refine j_icmp_le hK 74 dJ6_numberOfTrailingZeros_0f7a4_64 (by decide) (fun hc => ?_) (fun hc => ?_)
  · replace hf := if_1 hc hf
    exact t_J6_numberOfTrailingZeros_0f7a4_74 hK hA  hf
  · replace hf := if_2 hc hf
    refine j_iinc hK (L' := [(1, .int (x1 + (2 : Int32))), (0, .int x0)]) dJ6_numberOfTrailingZeros_0f7a4_67 1 rfl (congrArg (fun y => x1 + y) ic_2) (by decide) rfl ?_
    refine j_iload_n hK dJ6_numberOfTrailingZeros_0f7a4_70 1 rfl rfl ?_
    refine j_iconst hK (2 : Int32) dJ6_numberOfTrailingZeros_0f7a4_71 ic_2 ?_
    refine j_iushr hK dJ6_numberOfTrailingZeros_0f7a4_72 ?_
    refine lt_I hf (fun y1 hf => ?_)
    refine j_istore_n hK (L' := [(0, .int y1), (1, .int (x1 + (2 : Int32)))]) dJ6_numberOfTrailingZeros_0f7a4_73 rfl (by decide) rfl ?_
    exact t_J6_numberOfTrailingZeros_0f7a4_74 hK hA  hf
def f_J6_numberOfTrailingZeros_0f7a4_49 (x0 : Int32) (x1 : Int32) (S : St) : Option (Int32 × St) := (if x0 ≤ (16 : Int32) then f_J6_numberOfTrailingZeros_0f7a4_62 x0 x1 S else lt (ushr x0 (4 : Int32)) (fun y2 => f_J6_numberOfTrailingZeros_0f7a4_62 y2 (x1 + (4 : Int32)) S))
theorem t_J6_numberOfTrailingZeros_0f7a4_49 {K : CT} (hK : KO K cJ6_numberOfTrailingZeros_0f7a4 RJ6 2 1 (some .int)) {r : Int32} {S' : St} (hA : zans K (some (.int r), S')) {x0 : Int32} {x1 : Int32} {S : St} (hf : f_J6_numberOfTrailingZeros_0f7a4_49 x0 x1 S = some (r, S')) : J K 49 [(0, .int x0), (1, .int x1)] [] S := by
  unfold f_J6_numberOfTrailingZeros_0f7a4_49 at hf
  refine j_iload_n hK dJ6_numberOfTrailingZeros_0f7a4_49 0 rfl rfl ?_
  refine j_bipush hK (16 : Int32) dJ6_numberOfTrailingZeros_0f7a4_50 bi_16 ?_
  refine j_icmp_le hK 62 dJ6_numberOfTrailingZeros_0f7a4_52 (by decide) (fun hc => ?_) (fun hc => ?_)
  · replace hf := if_1 hc hf
    exact t_J6_numberOfTrailingZeros_0f7a4_62 hK hA  hf
  · replace hf := if_2 hc hf
    refine j_iinc hK (L' := [(1, .int (x1 + (4 : Int32))), (0, .int x0)]) dJ6_numberOfTrailingZeros_0f7a4_55 1 rfl (congrArg (fun y => x1 + y) ic_4) (by decide) rfl ?_
    refine j_iload_n hK dJ6_numberOfTrailingZeros_0f7a4_58 1 rfl rfl ?_
    refine j_iconst hK (4 : Int32) dJ6_numberOfTrailingZeros_0f7a4_59 ic_4 ?_
    refine j_iushr hK dJ6_numberOfTrailingZeros_0f7a4_60 ?_
    refine lt_I hf (fun y2 hf => ?_)
    refine j_istore_n hK (L' := [(0, .int y2), (1, .int (x1 + (4 : Int32)))]) dJ6_numberOfTrailingZeros_0f7a4_61 rfl (by decide) rfl ?_
    exact t_J6_numberOfTrailingZeros_0f7a4_62 hK hA  hf
def f_J6_numberOfTrailingZeros_0f7a4_34 (x0 : Int32) (x1 : Int32) (S : St) : Option (Int32 × St) := (if x0 ≤ (256 : Int32) then f_J6_numberOfTrailingZeros_0f7a4_49 x0 x1 S else lt (ushr x0 (8 : Int32)) (fun y3 => f_J6_numberOfTrailingZeros_0f7a4_49 y3 (x1 + (8 : Int32)) S))
theorem t_J6_numberOfTrailingZeros_0f7a4_34 {K : CT} (hK : KO K cJ6_numberOfTrailingZeros_0f7a4 RJ6 2 1 (some .int)) {r : Int32} {S' : St} (hA : zans K (some (.int r), S')) {x0 : Int32} {x1 : Int32} {S : St} (hf : f_J6_numberOfTrailingZeros_0f7a4_34 x0 x1 S = some (r, S')) : J K 34 [(0, .int x0), (1, .int x1)] [] S := by
  unfold f_J6_numberOfTrailingZeros_0f7a4_34 at hf
  refine j_iload_n hK dJ6_numberOfTrailingZeros_0f7a4_34 0 rfl rfl ?_
  refine j_sipush hK (256 : Int32) dJ6_numberOfTrailingZeros_0f7a4_35 si_256 ?_
  refine j_icmp_le hK 49 dJ6_numberOfTrailingZeros_0f7a4_38 (by decide) (fun hc => ?_) (fun hc => ?_)
  · replace hf := if_1 hc hf
    exact t_J6_numberOfTrailingZeros_0f7a4_49 hK hA  hf
  · replace hf := if_2 hc hf
    refine j_iinc hK (L' := [(1, .int (x1 + (8 : Int32))), (0, .int x0)]) dJ6_numberOfTrailingZeros_0f7a4_41 1 rfl (congrArg (fun y => x1 + y) ic_8) (by decide) rfl ?_
    refine j_iload_n hK dJ6_numberOfTrailingZeros_0f7a4_44 1 rfl rfl ?_
    refine j_bipush hK (8 : Int32) dJ6_numberOfTrailingZeros_0f7a4_45 bi_8 ?_
    refine j_iushr hK dJ6_numberOfTrailingZeros_0f7a4_47 ?_
    refine lt_I hf (fun y3 hf => ?_)
    refine j_istore_n hK (L' := [(0, .int y3), (1, .int (x1 + (8 : Int32)))]) dJ6_numberOfTrailingZeros_0f7a4_48 rfl (by decide) rfl ?_
    exact t_J6_numberOfTrailingZeros_0f7a4_49 hK hA  hf
def f_J6_numberOfTrailingZeros_0f7a4 (p0 : Int32) (S : St) : Option (Int32 × St) := lt ((p0 ^^^ (-1 : Int32)) &&& (p0 - (1 : Int32))) (fun y4 => (if 0 < y4 then (if y4 ≤ (65536 : Int32) then f_J6_numberOfTrailingZeros_0f7a4_34 y4 (1 : Int32) S else lt (ushr y4 (16 : Int32)) (fun y5 => f_J6_numberOfTrailingZeros_0f7a4_34 y5 ((1 : Int32) + (16 : Int32)) S)) else some ((y4 &&& (32 : Int32)), S)))
theorem c_J6_numberOfTrailingZeros_0f7a4 {p0 : Int32} {S : St} {r : Int32} {S' : St} (hf : f_J6_numberOfTrailingZeros_0f7a4 p0 S = some (r, S')) : zM yJ6_numberOfTrailingZeros_0f7a4 cJ6_numberOfTrailingZeros_0f7a4 2 1 (some .int) [.int p0] S (some (.int r)) S' := by
  refine zM_of (zpl (by decide)) (Nat.le_of_ble_eq_true rfl) rfl (fun K hK hA => ?_)
  unfold f_J6_numberOfTrailingZeros_0f7a4 at hf
  refine j_iload_n hK dJ6_numberOfTrailingZeros_0f7a4_0 0 rfl rfl ?_
  refine j_iconst hK (-1 : Int32) dJ6_numberOfTrailingZeros_0f7a4_1 ic_m1 ?_
  refine j_ixor hK dJ6_numberOfTrailingZeros_0f7a4_2 ?_
  refine j_iload_n hK dJ6_numberOfTrailingZeros_0f7a4_3 0 rfl rfl ?_
  refine j_iconst hK (1 : Int32) dJ6_numberOfTrailingZeros_0f7a4_4 ic_1 ?_
  refine j_isub hK dJ6_numberOfTrailingZeros_0f7a4_5 ?_
  refine j_iand hK dJ6_numberOfTrailingZeros_0f7a4_6 ?_
  refine lt_I hf (fun y4 hf => ?_)
  refine j_istore_n hK (L' := [(0, .int y4)]) dJ6_numberOfTrailingZeros_0f7a4_7 rfl (by decide) rfl ?_
  refine j_pc (pc' := 8) rfl ?_
  refine j_iload_n hK dJ6_numberOfTrailingZeros_0f7a4_8 0 rfl rfl ?_
  refine j_if_gt hK 17 dJ6_numberOfTrailingZeros_0f7a4_9 (by decide) (fun hc => ?_) (fun hc => ?_)
  · replace hf := if_1 hc hf
    refine j_iconst hK (1 : Int32) dJ6_numberOfTrailingZeros_0f7a4_17 ic_1 ?_
    refine j_istore_n hK (L' := [(1, .int (1 : Int32)), (0, .int y4)]) dJ6_numberOfTrailingZeros_0f7a4_18 rfl (by decide) rfl ?_
    refine j_iload_n hK dJ6_numberOfTrailingZeros_0f7a4_19 1 rfl rfl ?_
    refine j_ldcw hK (v := (65536 : Int32)) cn_J6_264 dJ6_numberOfTrailingZeros_0f7a4_20 ?_
    refine j_icmp_le hK 34 dJ6_numberOfTrailingZeros_0f7a4_23 (by decide) (fun hc => ?_) (fun hc => ?_)
    · replace hf := if_1 hc hf
      refine j_sub [1, 0] rfl ?_
      exact t_J6_numberOfTrailingZeros_0f7a4_34 hK hA  hf
    · replace hf := if_2 hc hf
      refine j_iinc hK (L' := [(1, .int ((1 : Int32) + (16 : Int32))), (0, .int y4)]) dJ6_numberOfTrailingZeros_0f7a4_26 0 rfl (congrArg (fun y => (1 : Int32) + y) ic_16) (by decide) rfl ?_
      refine j_iload_n hK dJ6_numberOfTrailingZeros_0f7a4_29 1 rfl rfl ?_
      refine j_bipush hK (16 : Int32) dJ6_numberOfTrailingZeros_0f7a4_30 bi_16 ?_
      refine j_iushr hK dJ6_numberOfTrailingZeros_0f7a4_32 ?_
      refine lt_I hf (fun y5 hf => ?_)
      refine j_istore_n hK (L' := [(0, .int y5), (1, .int ((1 : Int32) + (16 : Int32)))]) dJ6_numberOfTrailingZeros_0f7a4_33 rfl (by decide) rfl ?_
      exact t_J6_numberOfTrailingZeros_0f7a4_34 hK hA  hf
  · replace hf := if_2 hc hf
    refine j_iload_n hK dJ6_numberOfTrailingZeros_0f7a4_12 0 rfl rfl ?_
    refine j_bipush hK (32 : Int32) dJ6_numberOfTrailingZeros_0f7a4_13 bi_32 ?_
    refine j_iand hK dJ6_numberOfTrailingZeros_0f7a4_15 ?_
    exact j_iret hK dJ6_numberOfTrailingZeros_0f7a4_16 rfl (rt_I hA hf)
def f_X2_leastOf (p1 : Int32) (S : St) : Option (Int32 × St) := (if p1 = 0 then some ((-1 : Int32), S) else bd (f_J6_numberOfTrailingZeros_0f7a4 p1 S) (fun r1 S2 => some (r1, S2)))
theorem c_X2_leastOf {p1 : Int32} {S : St} {r : Int32} {S' : St} (hf : f_X2_leastOf p1 S = some (r, S')) : zM yX2_leastOf cX2_leastOf 2 2 (some .int) [.ref 92, .int p1] S (some (.int r)) S' := by
  refine zM_of (zpl (by decide)) (Nat.le_of_ble_eq_true rfl) rfl (fun K hK hA => ?_)
  unfold f_X2_leastOf at hf
  refine j_iload_n hK dX2_leastOf_0 1 rfl rfl ?_
  refine j_if_ne hK 8 dX2_leastOf_1 (by decide) (fun hc => ?_) (fun hc => ?_)
  · replace hf := if_2 hc hf
    refine j_iload_n hK dX2_leastOf_8 1 rfl rfl ?_
    obtain ⟨r1, S2, h3, hf⟩ := bd_J hf
    refine k_callSi hK (c_J6_numberOfTrailingZeros_0f7a4 h3) dX2_leastOf_9 ml_X2_81 ms_J6_numberOfTrailingZeros_0f7a4 in_J6 mc_J6_numberOfTrailingZeros_0f7a4 hy_J6_numberOfTrailingZeros_0f7a4 ⟨by decide, by decide⟩ rfl (Nat.le_of_ble_eq_true rfl) ?_
    exact j_iret hK dX2_leastOf_12 rfl (rt_I hA hf)
  · replace hf := if_1 hc hf
    refine j_iconst hK (-1 : Int32) dX2_leastOf_4 ic_m1 ?_
    refine j_goto hK 12 dX2_leastOf_5 (by decide) ?_
    exact j_iret hK dX2_leastOf_12 rfl (rt_I hA hf)
def f_X2_goes_209 (x1 : Int32) (x3 : Int32) (s0 : Int32) (k e : Int32 × Int32 → St → Option (Int32 × St)) (S : St) : Option (Int32 × St) := k (x3, s0) S
theorem t_X2_goes_209 {K : CT} (hK : KO K cX2_goes RX2 5 4 (some .boolean)) {r : Int32} {S' : St} (hA : zans K (some (.int r), S')) {x1 : Int32} {x3 : Int32} {s0 : Int32} {k e : Int32 × Int32 → St → Option (Int32 × St)} (hk : ∀ (v : Int32 × Int32) (S : St), k v S = some (r, S') → J K 65 [(0, .ref 92), (1, .int x1), (3, .int v.1), (4, .int v.2)] [] S) (he : ∀ (v : Int32 × Int32) (S : St), e v S = some (r, S') → J K 214 [] [] S) {S : St} (hf : f_X2_goes_209 x1 x3 s0 k e S = some (r, S')) : J K 209 [(0, .ref 92), (1, .int x1), (3, .int x3)] [.int s0] S := by
  unfold f_X2_goes_209 at hf
  refine j_istore hK (L' := [(4, .int s0), (0, .ref 92), (1, .int x1), (3, .int x3)]) dX2_goes_209 (by decide) rfl ?_
  refine j_goto hK 65 dX2_goes_211 (by decide) ?_
  refine j_sub [1, 2, 3, 0] rfl ?_
  exact hk _ _ hf
def f_X2_goes_121 (x1 : Int32) (x3 : Int32) (x4 : Int32) (s1 : Int32) (s2 : Int32) (k e : Int32 × Int32 → St → Option (Int32 × St)) (S : St) : Option (Int32 × St) := if inb s1 12 then lt (sI S 94 s1.toNatClampNeg s2) (fun S2 => lt (sI S2 92 3 ((gI S2 92 3) + (1 : Int32))) (fun S3 => if inb x4 12 then lt (sI S3 92 4 ((gI S3 92 4) + (gI S3 7 x4.toNatClampNeg))) (fun S5 => lt (x3 &&& (((1 : Int32) <<< (x4 &&& 31)) ^^^ (-1 : Int32))) (fun y6 => bd (f_X0_acrossFrom (gI S5 92 5) x4 S5) (fun r7 S8 => lt (sI S8 92 5 r7) (fun S10 => (if (gI S10 92 5) = x1 then f_X2_goes_209 x1 y6 (-1 : Int32) k e S10 else bd (f_X0_openOf (gI S10 92 5) S10) (fun r11 S12 => bd (f_X2_leastOf (y6 &&& r11) S12) (fun r14 S15 => f_X2_goes_209 x1 y6 r14 k e S15))))))) else none)) else none
theorem t_X2_goes_121 {K : CT} (hK : KO K cX2_goes RX2 5 4 (some .boolean)) {r : Int32} {S' : St} (hA : zans K (some (.int r), S')) {x1 : Int32} {x3 : Int32} {x4 : Int32} {s1 : Int32} {s2 : Int32} {k e : Int32 × Int32 → St → Option (Int32 × St)} (hk : ∀ (v : Int32 × Int32) (S : St), k v S = some (r, S') → J K 65 [(0, .ref 92), (1, .int x1), (3, .int v.1), (4, .int v.2)] [] S) (he : ∀ (v : Int32 × Int32) (S : St), e v S = some (r, S') → J K 214 [] [] S) {S : St} (hf : f_X2_goes_121 x1 x3 x4 s1 s2 k e S = some (r, S')) : J K 121 [(0, .ref 92), (1, .int x1), (3, .int x3), (4, .int x4)] [.int s2, .int s1, .ref 94] S := by
  unfold f_X2_goes_121 at hf
  obtain ⟨hi1, hf⟩ := gd hf
  refine k_iast hK dX2_goes_121 zb_94 hi1 rfl ?_
  refine lt_S hf (fun S2 hf => ?_)
  refine j_aload_n hK dX2_goes_122 0 rfl rfl ?_
  refine j_dup hK dX2_goes_123 rfl ?_
  refine j_getI hK fl_X2_22 dX2_goes_124 zo_92 zf_2_3 ?_
  refine j_iconst hK (1 : Int32) dX2_goes_127 ic_1 ?_
  refine j_iadd hK dX2_goes_128 ?_
  refine j_putI hK fl_X2_22 dX2_goes_129 zo_92 zf_2_3 ?_
  refine lt_S hf (fun S3 hf => ?_)
  refine j_aload_n hK dX2_goes_132 0 rfl rfl ?_
  refine j_pc (pc' := 133) rfl ?_
  refine j_dup hK dX2_goes_133 rfl ?_
  refine j_getI hK fl_X2_26 dX2_goes_134 zo_92 zf_2_4 ?_
  refine j_aload_n hK dX2_goes_137 0 rfl rfl ?_
  refine j_getR hK fl_X2_9 dX2_goes_138 zo_92 zf_2_0 zr_92_0 ?_
  refine j_getR hK fl_X2_55 dX2_goes_141 zo_3 zf_0_3 zr_3_3 ?_
  refine j_getR hK fl_X2_67 dX2_goes_144 zo_6 zf_7_0 zr_6_0 ?_
  refine j_iload hK dX2_goes_147 3 rfl ?_
  obtain ⟨hi4, hf⟩ := gd hf
  refine k_iald hK dX2_goes_149 zb_7 hi4 rfl ?_
  refine j_pc (pc' := 150) rfl ?_
  refine j_iadd hK dX2_goes_150 ?_
  refine j_putI hK fl_X2_26 dX2_goes_151 zo_92 zf_2_4 ?_
  refine lt_S hf (fun S5 hf => ?_)
  refine j_iload_n hK dX2_goes_154 2 rfl rfl ?_
  refine j_iconst hK (1 : Int32) dX2_goes_155 ic_1 ?_
  refine j_iload hK dX2_goes_156 3 rfl ?_
  refine j_ishl hK dX2_goes_158 ?_
  refine j_iconst hK (-1 : Int32) dX2_goes_159 ic_m1 ?_
  refine j_ixor hK dX2_goes_160 ?_
  refine j_pc (pc' := 161) rfl ?_
  refine j_iand hK dX2_goes_161 ?_
  refine lt_I hf (fun y6 hf => ?_)
  refine j_istore_n hK (L' := [(3, .int y6), (0, .ref 92), (1, .int x1), (4, .int x4)]) dX2_goes_162 rfl (by decide) rfl ?_
  refine j_aload_n hK dX2_goes_163 1 rfl rfl ?_
  refine j_aload_n hK dX2_goes_164 1 rfl rfl ?_
  refine j_getR hK fl_X2_9 dX2_goes_165 zo_92 zf_2_0 zr_92_0 ?_
  refine j_aload_n hK dX2_goes_168 1 rfl rfl ?_
  refine j_getI hK fl_X2_29 dX2_goes_169 zo_92 zf_2_5 ?_
  refine j_iload hK dX2_goes_172 3 rfl ?_
  refine j_pc (pc' := 174) rfl ?_
  obtain ⟨r7, S8, h9, hf⟩ := bd_J hf
  refine k_callVi hK (c_X0_acrossFrom h9) dX2_goes_174 zclX0 zo_3 ml_X2_70 mi_X0_acrossFrom mx_X0_acrossFrom in_X0 mc_X0_acrossFrom hy_X0_acrossFrom ⟨by decide, by decide⟩ rfl (Nat.le_of_ble_eq_true rfl) ?_
  refine j_putI hK fl_X2_29 dX2_goes_177 zo_92 zf_2_5 ?_
  refine lt_S hf (fun S10 hf => ?_)
  refine j_aload_n hK dX2_goes_180 1 rfl rfl ?_
  refine j_getI hK fl_X2_29 dX2_goes_181 zo_92 zf_2_5 ?_
  refine j_iload_n hK dX2_goes_184 2 rfl rfl ?_
  refine j_icmp_ne hK 192 dX2_goes_185 (by decide) (fun hc => ?_) (fun hc => ?_)
  · replace hf := if_2 hc hf
    refine j_aload_n hK dX2_goes_192 1 rfl rfl ?_
    refine j_iload_n hK dX2_goes_193 0 rfl rfl ?_
    refine j_aload_n hK dX2_goes_194 1 rfl rfl ?_
    refine j_getR hK fl_X2_9 dX2_goes_195 zo_92 zf_2_0 zr_92_0 ?_
    refine j_aload_n hK dX2_goes_198 1 rfl rfl ?_
    refine j_getI hK fl_X2_29 dX2_goes_199 zo_92 zf_2_5 ?_
    obtain ⟨r11, S12, h13, hf⟩ := bd_J hf
    refine k_callVi hK (c_X0_openOf h13) dX2_goes_202 zclX0 zo_3 ml_X2_74 mi_X0_openOf mx_X0_openOf in_X0 mc_X0_openOf hy_X0_openOf ⟨by decide, by decide⟩ rfl (Nat.le_of_ble_eq_true rfl) ?_
    refine j_pc (pc' := 205) rfl ?_
    refine j_iand hK dX2_goes_205 ?_
    obtain ⟨r14, S15, h16, hf⟩ := bd_J hf
    refine k_callVi hK (c_X2_leastOf h16) dX2_goes_206 zclX2 zo_92 ml_X2_78 mi_X2_leastOf mx_X2_leastOf in_X2 mc_X2_leastOf hy_X2_leastOf ⟨by decide, by decide⟩ rfl (Nat.le_of_ble_eq_true rfl) ?_
    refine j_sub [1, 2, 0] rfl ?_
    exact t_X2_goes_209 hK hA hk he hf
  · replace hf := if_1 hc hf
    refine j_iconst hK (-1 : Int32) dX2_goes_188 ic_m1 ?_
    refine j_goto hK 209 dX2_goes_189 (by decide) ?_
    refine j_sub [1, 2, 0] rfl ?_
    exact t_X2_goes_209 hK hA hk he hf
def f_X2_goes_65b (x1 : Int32) (e : Int32 × Int32 → St → Option (Int32 × St)) (k : Int32 × Int32 → St → Option (Int32 × St)) (v : Int32 × Int32) (S : St) : Option (Int32 × St) := (if v.2 = (-1 : Int32) then e (v.1, v.2) S else (if (12 : Int32) ≤ (gI S 92 3) then e (v.1, v.2) S else if inb (gI S 92 3) 12 then lt (sI S 93 (gI S 92 3).toNatClampNeg v.2) (fun S18 => if inb v.2 12 then (if (gI S18 5 v.2.toNatClampNeg) = (gI S18 92 5) then f_X2_goes_121 x1 v.1 v.2 (gI S18 92 3) (1 : Int32) k e S18 else f_X2_goes_121 x1 v.1 v.2 (gI S18 92 3) (0 : Int32) k e S18) else none) else none))
theorem t_X2_goes_65 {K : CT} (hK : KO K cX2_goes RX2 5 4 (some .boolean)) {r : Int32} {S' : St} (hA : zans K (some (.int r), S')) {x1 : Int32} {e : Int32 × Int32 → St → Option (Int32 × St)} (he : ∀ (v : Int32 × Int32) (S : St), e v S = some (r, S') → J K 214 [] [] S) : ∀ (n : Nat) (v : Int32 × Int32) (S : St), lp (f_X2_goes_65b x1 e) n v S = some (r, S') → J K 65 [(0, .ref 92), (1, .int x1), (3, .int v.1), (4, .int v.2)] [] S :=
  lp_J (P := fun (v : Int32 × Int32) (S : St) => J K 65 [(0, .ref 92), (1, .int x1), (3, .int v.1), (4, .int v.2)] [] S) (fun k hk v S hf => by
    unfold f_X2_goes_65b at hf
    refine j_iload hK dX2_goes_65 3 rfl ?_
    refine j_iconst hK (-1 : Int32) dX2_goes_67 ic_m1 ?_
    refine j_icmp_eq hK 214 dX2_goes_68 (by decide) (fun hc => ?_) (fun hc => ?_)
    · replace hf := if_1 hc hf
      refine j_sub [] rfl ?_
      exact he _ _ hf
    · replace hf := if_2 hc hf
      refine j_aload_n hK dX2_goes_71 0 rfl rfl ?_
      refine j_getI hK fl_X2_22 dX2_goes_72 zo_92 zf_2_3 ?_
      refine j_bipush hK (12 : Int32) dX2_goes_75 bi_12 ?_
      refine j_icmp_ge hK 214 dX2_goes_77 (by decide) (fun hc => ?_) (fun hc => ?_)
      · replace hf := if_1 hc hf
        refine j_sub [] rfl ?_
        exact he _ _ hf
      · replace hf := if_2 hc hf
        refine j_aload_n hK dX2_goes_80 0 rfl rfl ?_
        refine j_getR hK fl_X2_15 dX2_goes_81 zo_92 zf_2_1 zr_92_1 ?_
        refine j_aload_n hK dX2_goes_84 0 rfl rfl ?_
        refine j_getI hK fl_X2_22 dX2_goes_85 zo_92 zf_2_3 ?_
        refine j_iload hK dX2_goes_88 3 rfl ?_
        obtain ⟨hi17, hf⟩ := gd hf
        refine k_iast hK dX2_goes_90 zb_93 hi17 rfl ?_
        refine lt_S hf (fun S18 hf => ?_)
        refine j_aload_n hK dX2_goes_91 0 rfl rfl ?_
        refine j_pc (pc' := 92) rfl ?_
        refine j_getR hK fl_X2_19 dX2_goes_92 zo_92 zf_2_2 zr_92_2 ?_
        refine j_aload_n hK dX2_goes_95 0 rfl rfl ?_
        refine j_getI hK fl_X2_22 dX2_goes_96 zo_92 zf_2_3 ?_
        refine j_aload_n hK dX2_goes_99 0 rfl rfl ?_
        refine j_getR hK fl_X2_9 dX2_goes_100 zo_92 zf_2_0 zr_92_0 ?_
        refine j_getR hK fl_X2_64 dX2_goes_103 zo_3 zf_0_1 zr_3_1 ?_
        refine j_iload hK dX2_goes_106 3 rfl ?_
        obtain ⟨hi19, hf⟩ := gd hf
        refine k_iald hK dX2_goes_108 zb_5 hi19 rfl ?_
        refine j_pc (pc' := 109) rfl ?_
        refine j_aload_n hK dX2_goes_109 0 rfl rfl ?_
        refine j_getI hK fl_X2_29 dX2_goes_110 zo_92 zf_2_5 ?_
        refine j_icmp_ne hK 120 dX2_goes_113 (by decide) (fun hc => ?_) (fun hc => ?_)
        · replace hf := if_2 hc hf
          refine j_iconst hK (0 : Int32) dX2_goes_120 ic_0 ?_
          exact t_X2_goes_121 hK hA hk he hf
        · replace hf := if_1 hc hf
          refine j_iconst hK (1 : Int32) dX2_goes_116 ic_1 ?_
          refine j_goto hK 121 dX2_goes_117 (by decide) ?_
          exact t_X2_goes_121 hK hA hk he hf)
def f_X2_goes (p1 : Int32) (p2 : Int32) (S : St) : Option (Int32 × St) := bd (f_X0_has p2 S) (fun r20 S21 => (if r20 = 0 then some ((0 : Int32), S21) else bd (f_X0_isOpen p2 S21) (fun r23 S24 => (if r23 = 0 then some ((0 : Int32), S24) else bd (f_X0_isEnd p1 p2 S24) (fun r26 S27 => (if r26 = 0 then some ((0 : Int32), S27) else lt (sI S27 92 3 (0 : Int32)) (fun S29 => lt (sI S29 92 4 (0 : Int32)) (fun S30 => lt (sI S30 92 5 p1) (fun S31 => lt (gI S31 6 3) (fun y32 => lp (f_X2_goes_65b p1 (fun v33 S34 => some ((1 : Int32), S34))) FU (y32, p2) S31))))))))))
theorem c_X2_goes {p1 : Int32} {p2 : Int32} {S : St} {r : Int32} {S' : St} (hf : f_X2_goes p1 p2 S = some (r, S')) : zM yX2_goes cX2_goes 5 4 (some .boolean) [.ref 92, .int p1, .int p2] S (some (.int r)) S' := by
  refine zM_of (zpl (by decide)) (Nat.le_of_ble_eq_true rfl) rfl (fun K hK hA => ?_)
  unfold f_X2_goes at hf
  refine j_aload_n hK dX2_goes_0 0 rfl rfl ?_
  refine j_getR hK fl_X2_9 dX2_goes_1 zo_92 zf_2_0 zr_92_0 ?_
  refine j_iload_n hK dX2_goes_4 2 rfl rfl ?_
  obtain ⟨r20, S21, h22, hf⟩ := bd_J hf
  refine k_callVi hK (c_X0_has h22) dX2_goes_5 zclX0 zo_3 ml_X2_42 mi_X0_has mx_X0_has in_X0 mc_X0_has hy_X0_has ⟨by decide, by decide⟩ rfl (Nat.le_of_ble_eq_true rfl) ?_
  refine j_if_eq hK 34 dX2_goes_8 (by decide) (fun hc => ?_) (fun hc => ?_)
  · replace hf := if_1 hc hf
    refine j_iconst hK (0 : Int32) dX2_goes_34 ic_0 ?_
    exact j_zret hK dX2_goes_35 rfl rfl (rt_I hA hf)
  · replace hf := if_2 hc hf
    refine j_aload_n hK dX2_goes_11 0 rfl rfl ?_
    refine j_getR hK fl_X2_9 dX2_goes_12 zo_92 zf_2_0 zr_92_0 ?_
    refine j_iload_n hK dX2_goes_15 2 rfl rfl ?_
    obtain ⟨r23, S24, h25, hf⟩ := bd_J hf
    refine k_callVi hK (c_X0_isOpen h25) dX2_goes_16 zclX0 zo_3 ml_X2_48 mi_X0_isOpen mx_X0_isOpen in_X0 mc_X0_isOpen hy_X0_isOpen ⟨by decide, by decide⟩ rfl (Nat.le_of_ble_eq_true rfl) ?_
    refine j_if_eq hK 34 dX2_goes_19 (by decide) (fun hc => ?_) (fun hc => ?_)
    · replace hf := if_1 hc hf
      refine j_iconst hK (0 : Int32) dX2_goes_34 ic_0 ?_
      exact j_zret hK dX2_goes_35 rfl rfl (rt_I hA hf)
    · replace hf := if_2 hc hf
      refine j_aload_n hK dX2_goes_22 0 rfl rfl ?_
      refine j_getR hK fl_X2_9 dX2_goes_23 zo_92 zf_2_0 zr_92_0 ?_
      refine j_iload_n hK dX2_goes_26 1 rfl rfl ?_
      refine j_iload_n hK dX2_goes_27 2 rfl rfl ?_
      obtain ⟨r26, S27, h28, hf⟩ := bd_J hf
      refine k_callVi hK (c_X0_isEnd h28) dX2_goes_28 zclX0 zo_3 ml_X2_51 mi_X0_isEnd mx_X0_isEnd in_X0 mc_X0_isEnd hy_X0_isEnd ⟨by decide, by decide⟩ rfl (Nat.le_of_ble_eq_true rfl) ?_
      refine j_if_ne hK 36 dX2_goes_31 (by decide) (fun hc => ?_) (fun hc => ?_)
      · replace hf := if_2 hc hf
        refine j_aload_n hK dX2_goes_36 0 rfl rfl ?_
        refine j_iconst hK (0 : Int32) dX2_goes_37 ic_0 ?_
        refine j_putI hK fl_X2_22 dX2_goes_38 zo_92 zf_2_3 ?_
        refine lt_S hf (fun S29 hf => ?_)
        refine j_aload_n hK dX2_goes_41 0 rfl rfl ?_
        refine j_iconst hK (0 : Int32) dX2_goes_42 ic_0 ?_
        refine j_putI hK fl_X2_26 dX2_goes_43 zo_92 zf_2_4 ?_
        refine lt_S hf (fun S30 hf => ?_)
        refine j_aload_n hK dX2_goes_46 0 rfl rfl ?_
        refine j_pc (pc' := 47) rfl ?_
        refine j_iload_n hK dX2_goes_47 1 rfl rfl ?_
        refine j_putI hK fl_X2_29 dX2_goes_48 zo_92 zf_2_5 ?_
        refine lt_S hf (fun S31 hf => ?_)
        refine j_aload_n hK dX2_goes_51 0 rfl rfl ?_
        refine j_getR hK fl_X2_9 dX2_goes_52 zo_92 zf_2_0 zr_92_0 ?_
        refine j_getR hK fl_X2_55 dX2_goes_55 zo_3 zf_0_3 zr_3_3 ?_
        refine j_getI hK fl_X2_59 dX2_goes_58 zo_6 zf_7_3 ?_
        refine lt_I hf (fun y32 hf => ?_)
        refine j_istore_n hK (L' := [(3, .int y32), (0, .ref 92), (1, .int p1), (2, .int p2)]) dX2_goes_61 rfl (by decide) rfl ?_
        refine j_iload_n hK dX2_goes_62 3 rfl rfl ?_
        refine j_pc (pc' := 63) rfl ?_
        refine j_istore hK (L' := [(4, .int p2), (3, .int y32), (0, .ref 92), (1, .int p1), (2, .int p2)]) dX2_goes_63 (by decide) rfl ?_
        refine j_sub [2, 3, 1, 0] rfl ?_
        refine t_X2_goes_65 hK hA  (fun v33 S34 hf => ?_) _ _ _ hf
        refine j_iconst hK (1 : Int32) dX2_goes_214 ic_1 ?_
        exact j_zret hK dX2_goes_215 rfl rfl (rt_I hA hf)
      · replace hf := if_1 hc hf
        refine j_iconst hK (0 : Int32) dX2_goes_34 ic_0 ?_
        exact j_zret hK dX2_goes_35 rfl rfl (rt_I hA hf)
def f_X8_lettersFrom_2b (x1 : Int32) (e : Int32 → St → Option (Int32 × St)) (k : Int32 → St → Option (Int32 × St)) (v : Int32) (S : St) : Option (Int32 × St) := (if (gI S 1 1) ≤ (x1 + v) then e v S else bd (f_X8_within (x1 + v) (97 : Int32) (104 : Int32) S) (fun r1 S2 => (if r1 = 0 then e v S2 else k (v + (1 : Int32)) S2)))
theorem t_X8_lettersFrom_2 {K : CT} (hK : KO K cX8_lettersFrom RX8 3 2 (some .int)) {r : Int32} {S' : St} (hA : zans K (some (.int r), S')) {x1 : Int32} {e : Int32 → St → Option (Int32 × St)} (he : ∀ (v : Int32) (S : St), e v S = some (r, S') → J K 32 [(2, .int v)] [] S) : ∀ (n : Nat) (v : Int32) (S : St), lp (f_X8_lettersFrom_2b x1 e) n v S = some (r, S') → J K 2 [(0, .ref 1), (1, .int x1), (2, .int v)] [] S :=
  lp_J (P := fun (v : Int32) (S : St) => J K 2 [(0, .ref 1), (1, .int x1), (2, .int v)] [] S) (fun k hk v S hf => by
    unfold f_X8_lettersFrom_2b at hf
    refine j_iload_n hK dX8_lettersFrom_2 1 rfl rfl ?_
    refine j_iload_n hK dX8_lettersFrom_3 2 rfl rfl ?_
    refine j_iadd hK dX8_lettersFrom_4 ?_
    refine j_aload_n hK dX8_lettersFrom_5 0 rfl rfl ?_
    refine j_getI hK fl_X8_15 dX8_lettersFrom_6 zo_1 zf_8_1 ?_
    refine j_icmp_ge hK 32 dX8_lettersFrom_9 (by decide) (fun hc => ?_) (fun hc => ?_)
    · replace hf := if_1 hc hf
      refine j_sub [2] rfl ?_
      exact he _ _ hf
    · replace hf := if_2 hc hf
      refine j_aload_n hK dX8_lettersFrom_12 0 rfl rfl ?_
      refine j_iload_n hK dX8_lettersFrom_13 1 rfl rfl ?_
      refine j_iload_n hK dX8_lettersFrom_14 2 rfl rfl ?_
      refine j_iadd hK dX8_lettersFrom_15 ?_
      refine j_bipush hK (97 : Int32) dX8_lettersFrom_16 bi_97 ?_
      refine j_bipush hK (104 : Int32) dX8_lettersFrom_18 bi_104 ?_
      obtain ⟨r1, S2, h3, hf⟩ := bd_J hf
      refine k_callVi hK (c_X8_within h3) dX8_lettersFrom_20 zclX8 zo_1 ml_X8_19 mi_X8_within mx_X8_within in_X8 mc_X8_within hy_X8_within ⟨by decide, by decide⟩ rfl (Nat.le_of_ble_eq_true rfl) ?_
      refine j_pc (pc' := 23) rfl ?_
      refine j_if_eq hK 32 dX8_lettersFrom_23 (by decide) (fun hc => ?_) (fun hc => ?_)
      · replace hf := if_1 hc hf
        refine j_sub [2] rfl ?_
        exact he _ _ hf
      · replace hf := if_2 hc hf
        refine j_iinc hK (L' := [(2, .int (v + (1 : Int32))), (0, .ref 1), (1, .int x1)]) dX8_lettersFrom_26 2 rfl (congrArg (fun y => v + y) ic_1) (by decide) rfl ?_
        refine j_goto hK 2 dX8_lettersFrom_29 (by decide) ?_
        refine j_sub [1, 2, 0] rfl ?_
        exact hk _ _ hf)
def f_X8_lettersFrom (p1 : Int32) (S : St) : Option (Int32 × St) := lp (f_X8_lettersFrom_2b p1 (fun v4 S5 => some (v4, S5))) FU (0 : Int32) S
theorem c_X8_lettersFrom {p1 : Int32} {S : St} {r : Int32} {S' : St} (hf : f_X8_lettersFrom p1 S = some (r, S')) : zM yX8_lettersFrom cX8_lettersFrom 3 2 (some .int) [.ref 1, .int p1] S (some (.int r)) S' := by
  refine zM_of (zpl (by decide)) (Nat.le_of_ble_eq_true rfl) rfl (fun K hK hA => ?_)
  unfold f_X8_lettersFrom at hf
  refine j_iconst hK (0 : Int32) dX8_lettersFrom_0 ic_0 ?_
  refine j_istore_n hK (L' := [(2, .int (0 : Int32)), (0, .ref 1), (1, .int p1)]) dX8_lettersFrom_1 rfl (by decide) rfl ?_
  refine j_sub [1, 2, 0] rfl ?_
  refine t_X8_lettersFrom_2 hK hA  (fun v4 S5 hf => ?_) _ _ _ hf
  refine j_iload_n hK dX8_lettersFrom_32 0 rfl rfl ?_
  exact j_iret hK dX8_lettersFrom_33 rfl (rt_I hA hf)
def f_X8_faultOfCall_27 (x1 : Int32) (S : St) : Option (Int32 × St) := some (x1, S)
theorem t_X8_faultOfCall_27 {K : CT} (hK : KO K cX8_faultOfCall RX8 2 3 (some .int)) {r : Int32} {S' : St} (hA : zans K (some (.int r), S')) {x1 : Int32} {S : St} (hf : f_X8_faultOfCall_27 x1 S = some (r, S')) : J K 27 [(1, .int x1)] [] S := by
  unfold f_X8_faultOfCall_27 at hf
  refine j_iload_n hK dX8_faultOfCall_27 0 rfl rfl ?_
  refine j_goto hK 32 dX8_faultOfCall_28 (by decide) ?_
  exact j_iret hK dX8_faultOfCall_32 rfl (rt_I hA hf)
def f_X8_faultOfCall (S : St) : Option (Int32 × St) := bd (f_X8_lettersFrom (0 : Int32) S) (fun r1 S2 => (if r1 ≤ (6 : Int32) then (if r1 = 0 then f_X8_faultOfCall_27 r1 S2 else (if (gI S2 1 1) ≤ r1 then some ((-1 : Int32), S2) else f_X8_faultOfCall_27 r1 S2)) else some ((6 : Int32), S2)))
theorem c_X8_faultOfCall {S : St} {r : Int32} {S' : St} (hf : f_X8_faultOfCall S = some (r, S')) : zM yX8_faultOfCall cX8_faultOfCall 2 3 (some .int) [.ref 1] S (some (.int r)) S' := by
  refine zM_of (zpl (by decide)) (Nat.le_of_ble_eq_true rfl) rfl (fun K hK hA => ?_)
  unfold f_X8_faultOfCall at hf
  refine j_aload_n hK dX8_faultOfCall_0 0 rfl rfl ?_
  refine j_iconst hK (0 : Int32) dX8_faultOfCall_1 ic_0 ?_
  obtain ⟨r1, S2, h3, hf⟩ := bd_J hf
  refine k_callVi hK (c_X8_lettersFrom h3) dX8_faultOfCall_2 zclX8 zo_1 ml_X8_37 mi_X8_lettersFrom mx_X8_lettersFrom in_X8 mc_X8_lettersFrom hy_X8_lettersFrom ⟨by decide, by decide⟩ rfl (Nat.le_of_ble_eq_true rfl) ?_
  refine j_istore_n hK (L' := [(1, .int r1), (0, .ref 1)]) dX8_faultOfCall_5 rfl (by decide) rfl ?_
  refine j_iload_n hK dX8_faultOfCall_6 0 rfl rfl ?_
  refine j_bipush hK (6 : Int32) dX8_faultOfCall_7 bi_6 ?_
  refine j_icmp_le hK 15 dX8_faultOfCall_9 (by decide) (fun hc => ?_) (fun hc => ?_)
  · replace hf := if_1 hc hf
    refine j_iload_n hK dX8_faultOfCall_15 0 rfl rfl ?_
    refine j_if_eq hK 27 dX8_faultOfCall_16 (by decide) (fun hc => ?_) (fun hc => ?_)
    · replace hf := if_1 hc hf
      refine j_sub [0] rfl ?_
      exact t_X8_faultOfCall_27 hK hA  hf
    · replace hf := if_2 hc hf
      refine j_iload_n hK dX8_faultOfCall_19 0 rfl rfl ?_
      refine j_aload_n hK dX8_faultOfCall_20 1 rfl rfl ?_
      refine j_getI hK fl_X8_15 dX8_faultOfCall_21 zo_1 zf_8_1 ?_
      refine j_icmp_ge hK 31 dX8_faultOfCall_24 (by decide) (fun hc => ?_) (fun hc => ?_)
      · replace hf := if_1 hc hf
        refine j_iconst hK (-1 : Int32) dX8_faultOfCall_31 ic_m1 ?_
        exact j_iret hK dX8_faultOfCall_32 rfl (rt_I hA hf)
      · replace hf := if_2 hc hf
        refine j_sub [0] rfl ?_
        exact t_X8_faultOfCall_27 hK hA  hf
  · replace hf := if_2 hc hf
    refine j_bipush hK (6 : Int32) dX8_faultOfCall_12 bi_6 ?_
    exact j_iret hK dX8_faultOfCall_14 rfl (rt_I hA hf)
def f_X10_refusalOfCall (p1 : Int32) (p2 : Int32) (S : St) : Option (Int32 × St) := bd (f_X2_goes p1 p2 S) (fun r1 S2 => (if r1 = 0 then some ((-100 : Int32), S2) else bd (f_X8_faultOfCall S2) (fun r4 S5 => (if r4 = (-1 : Int32) then some ((0 : Int32), S5) else some (((-1 : Int32) - r4), S5)))))
theorem c_X10_refusalOfCall {p1 : Int32} {p2 : Int32} {S : St} {r : Int32} {S' : St} (hf : f_X10_refusalOfCall p1 p2 S = some (r, S')) : zM yX10_refusalOfCall cX10_refusalOfCall 4 5 (some .int) [.ref 0, .int p1, .int p2] S (some (.int r)) S' := by
  refine zM_of (zpl (by decide)) (Nat.le_of_ble_eq_true rfl) rfl (fun K hK hA => ?_)
  unfold f_X10_refusalOfCall at hf
  refine j_aload_n hK dX10_refusalOfCall_0 0 rfl rfl ?_
  refine j_getR hK fl_X10_42 dX10_refusalOfCall_1 zo_0 zf_10_4 zr_0_4 ?_
  refine j_iload_n hK dX10_refusalOfCall_4 1 rfl rfl ?_
  refine j_iload_n hK dX10_refusalOfCall_5 2 rfl rfl ?_
  obtain ⟨r1, S2, h3, hf⟩ := bd_J hf
  refine k_callVi hK (c_X2_goes h3) dX10_refusalOfCall_6 zclX2 zo_92 ml_X10_236 mi_X2_goes mx_X2_goes in_X2 mc_X2_goes hy_X2_goes ⟨by decide, by decide⟩ rfl (Nat.le_of_ble_eq_true rfl) ?_
  refine j_if_ne hK 15 dX10_refusalOfCall_9 (by decide) (fun hc => ?_) (fun hc => ?_)
  · replace hf := if_2 hc hf
    refine j_aload_n hK dX10_refusalOfCall_15 0 rfl rfl ?_
    refine j_getR hK fl_X10_10 dX10_refusalOfCall_16 zo_0 zf_10_0 zr_0_0 ?_
    obtain ⟨r4, S5, h6, hf⟩ := bd_J hf
    refine k_callVi hK (c_X8_faultOfCall h6) dX10_refusalOfCall_19 zclX8 zo_1 ml_X10_240 mi_X8_faultOfCall mx_X8_faultOfCall in_X8 mc_X8_faultOfCall hy_X8_faultOfCall ⟨by decide, by decide⟩ rfl (Nat.le_of_ble_eq_true rfl) ?_
    refine j_istore_n hK (L' := [(3, .int r4), (0, .ref 0), (1, .int p1), (2, .int p2)]) dX10_refusalOfCall_22 rfl (by decide) rfl ?_
    refine j_iload_n hK dX10_refusalOfCall_23 0 rfl rfl ?_
    refine j_iconst hK (-1 : Int32) dX10_refusalOfCall_24 ic_m1 ?_
    refine j_icmp_ne hK 32 dX10_refusalOfCall_25 (by decide) (fun hc => ?_) (fun hc => ?_)
    · replace hf := if_2 hc hf
      refine j_iconst hK (-1 : Int32) dX10_refusalOfCall_32 ic_m1 ?_
      refine j_iload_n hK dX10_refusalOfCall_33 0 rfl rfl ?_
      refine j_isub hK dX10_refusalOfCall_34 ?_
      exact j_iret hK dX10_refusalOfCall_35 rfl (rt_I hA hf)
    · replace hf := if_1 hc hf
      refine j_iconst hK (0 : Int32) dX10_refusalOfCall_28 ic_0 ?_
      refine j_goto hK 35 dX10_refusalOfCall_29 (by decide) ?_
      exact j_iret hK dX10_refusalOfCall_35 rfl (rt_I hA hf)
  · replace hf := if_1 hc hf
    refine j_bipush hK (-100 : Int32) dX10_refusalOfCall_12 bi_m100 ?_
    exact j_iret hK dX10_refusalOfCall_14 rfl (rt_I hA hf)
def f_X4_marked (S : St) : Option (Nat × St) := lt (((gI S 12 1) + (gI S 12 2)) - ((gI S 12 1) + (gI S 12 2)) / (16 : Int32) * (16 : Int32)) (fun y1 => if inb y1 16 then some ((zr 13 y1.toNatClampNeg), S) else none)
theorem c_X4_marked {S : St} {r : Nat} {S' : St} (hf : f_X4_marked S = some (r, S')) : zM yX4_marked cX4_marked 1 1 (some (.object "CaveAdvice$State")) [.ref 12] S (some (.ref r)) S' := by
  refine zM_of (zpl (by decide)) (Nat.le_of_ble_eq_true rfl) rfl (fun K hK hA => ?_)
  unfold f_X4_marked at hf
  refine j_aload_n hK dX4_marked_0 0 rfl rfl ?_
  refine j_getR hK fl_X4_11 dX4_marked_1 zo_12 zf_4_0 zr_12_0 ?_
  refine j_aload_n hK dX4_marked_4 0 rfl rfl ?_
  refine j_getI hK fl_X4_16 dX4_marked_5 zo_12 zf_4_1 ?_
  refine j_aload_n hK dX4_marked_8 0 rfl rfl ?_
  refine j_getI hK fl_X4_20 dX4_marked_9 zo_12 zf_4_2 ?_
  refine j_iadd hK dX4_marked_12 ?_
  refine j_bipush hK (16 : Int32) dX4_marked_13 bi_16 ?_
  refine j_pc (pc' := 15) rfl ?_
  refine j_irem hK dX4_marked_15 (by decide) ?_
  refine lt_I hf (fun y1 hf => ?_)
  obtain ⟨hi2, hf⟩ := gd hf
  refine j_aald hK dX4_marked_16 zb_13 hi2 ?_
  exact j_aret hK dX4_marked_17 rfl (rt_R hA hf)
def f_X7_take (o : Nat) (o2 : Nat) (S : St) : Option (Unit × St) := lt (sC S (o2 + 1) 0 (o + 1) 0 12) (fun S1 => lt (sC S1 (o2 + 2) 0 (o + 2) 0 12) (fun S2 => lt (sC S2 (o2 + 3) 0 (o + 3) 0 12) (fun S3 => lt (sI S3 o 3 (gI S3 o2 3)) (fun S4 => lt (sI S4 o 4 (gI S4 o2 4)) (fun S5 => lt (sI S5 o 5 (gI S5 o2 5)) (fun S6 => some ((), S6)))))))
theorem c_X7_take {o : Nat} {o2 : Nat} (ho : isState o) (ho2 : isState o2) {S : St} {r : Unit} {S' : St} (hf : f_X7_take o o2 S = some (r, S')) : zM yX7_take cX7_take 2 1 none [.ref o, .ref o2] S (none) S' := by
  refine zM_of (zpl (by decide)) (Nat.le_of_ble_eq_true rfl) rfl (fun K hK hA => ?_)
  unfold f_X7_take at hf
  refine j_aload_n hK dX7_take_0 1 rfl rfl ?_
  refine j_getR hK fl_X7_9 dX7_take_1 ho2 zf_7_0 (st_r0 ho2) ?_
  refine j_iconst hK (0 : Int32) dX7_take_4 ic_0 ?_
  refine j_aload_n hK dX7_take_5 0 rfl rfl ?_
  refine j_getR hK fl_X7_9 dX7_take_6 ho zf_7_0 (st_r0 ho) ?_
  refine j_iconst hK (0 : Int32) dX7_take_9 ic_0 ?_
  refine j_bipush hK (12 : Int32) dX7_take_10 bi_12 ?_
  refine k_copyI hK ml_X7_31 dX7_take_12 (st_b1 ho2) (st_b1 ho) (by decide) (by decide) (by decide) (by decide) (by decide) tn_0 tn_0 tn_12 (by decide) (Nat.le_of_ble_eq_true rfl) ?_
  refine lt_S hf (fun S1 hf => ?_)
  refine j_pc (pc' := 15) rfl ?_
  refine j_aload_n hK dX7_take_15 1 rfl rfl ?_
  refine j_getR hK fl_X7_15 dX7_take_16 ho2 zf_7_1 (st_r1 ho2) ?_
  refine j_iconst hK (0 : Int32) dX7_take_19 ic_0 ?_
  refine j_aload_n hK dX7_take_20 0 rfl rfl ?_
  refine j_getR hK fl_X7_15 dX7_take_21 ho zf_7_1 (st_r1 ho) ?_
  refine j_iconst hK (0 : Int32) dX7_take_24 ic_0 ?_
  refine j_bipush hK (12 : Int32) dX7_take_25 bi_12 ?_
  refine k_copyI hK ml_X7_31 dX7_take_27 (st_b2 ho2) (st_b2 ho) (by decide) (by decide) (by decide) (by decide) (by decide) tn_0 tn_0 tn_12 (by decide) (Nat.le_of_ble_eq_true rfl) ?_
  refine lt_S hf (fun S2 hf => ?_)
  refine j_pc (pc' := 30) rfl ?_
  refine j_aload_n hK dX7_take_30 1 rfl rfl ?_
  refine j_getR hK fl_X7_18 dX7_take_31 ho2 zf_7_2 (st_r2 ho2) ?_
  refine j_iconst hK (0 : Int32) dX7_take_34 ic_0 ?_
  refine j_aload_n hK dX7_take_35 0 rfl rfl ?_
  refine j_getR hK fl_X7_18 dX7_take_36 ho zf_7_2 (st_r2 ho) ?_
  refine j_iconst hK (0 : Int32) dX7_take_39 ic_0 ?_
  refine j_bipush hK (12 : Int32) dX7_take_40 bi_12 ?_
  refine k_copyI hK ml_X7_31 dX7_take_42 (st_b3 ho2) (st_b3 ho) (by decide) (by decide) (by decide) (by decide) (by decide) tn_0 tn_0 tn_12 (by decide) (Nat.le_of_ble_eq_true rfl) ?_
  refine lt_S hf (fun S3 hf => ?_)
  refine j_pc (pc' := 45) rfl ?_
  refine j_aload_n hK dX7_take_45 0 rfl rfl ?_
  refine j_aload_n hK dX7_take_46 1 rfl rfl ?_
  refine j_getI hK fl_X7_21 dX7_take_47 ho2 zf_7_3 ?_
  refine j_putI hK fl_X7_21 dX7_take_50 ho zf_7_3 ?_
  refine lt_S hf (fun S4 hf => ?_)
  refine j_aload_n hK dX7_take_53 0 rfl rfl ?_
  refine j_aload_n hK dX7_take_54 1 rfl rfl ?_
  refine j_getI hK fl_X7_25 dX7_take_55 ho2 zf_7_4 ?_
  refine j_putI hK fl_X7_25 dX7_take_58 ho zf_7_4 ?_
  refine lt_S hf (fun S5 hf => ?_)
  refine j_pc (pc' := 61) rfl ?_
  refine j_aload_n hK dX7_take_61 0 rfl rfl ?_
  refine j_aload_n hK dX7_take_62 1 rfl rfl ?_
  refine j_getI hK fl_X7_28 dX7_take_63 ho2 zf_7_5 ?_
  refine j_putI hK fl_X7_28 dX7_take_66 ho zf_7_5 ?_
  refine lt_S hf (fun S6 hf => ?_)
  exact j_vret hK dX7_take_69 rfl (rt_V hA hf)
def f_X4_mark (S : St) : Option (Unit × St) := bd (f_X4_marked S) (fun r1 S2 => if isState r1 then bd (f_X7_take r1 6 S2) (fun r5 S6 => some ((), S6)) else none)
theorem c_X4_mark {S : St} {r : Unit} {S' : St} (hf : f_X4_mark S = some (r, S')) : zM yX4_mark cX4_mark 2 2 none [.ref 12, .ref 6] S (none) S' := by
  refine zM_of (zpl (by decide)) (Nat.le_of_ble_eq_true rfl) rfl (fun K hK hA => ?_)
  unfold f_X4_mark at hf
  refine j_aload_n hK dX4_mark_0 0 rfl rfl ?_
  obtain ⟨r1, S2, h3, hf⟩ := bd_J hf
  obtain ⟨hq4, hf⟩ := gd hf
  refine k_callVr hK (c_X4_marked h3) dX4_mark_1 zclX4 zo_12 ml_X4_30 mi_X4_marked mx_X4_marked in_X4 mc_X4_marked hy_X4_marked ⟨by decide, by decide⟩ rfl (Nat.le_of_ble_eq_true rfl) ?_
  refine j_aload_n hK dX4_mark_4 1 rfl rfl ?_
  obtain ⟨r5, S6, h7, hf⟩ := bd_J hf
  refine k_callVv hK (c_X7_take hq4 zo_6 h7) dX4_mark_5 zclX7 hq4 ml_X4_34 mi_X7_take mx_X7_take in_X7 mc_X7_take hy_X7_take ⟨by decide, by decide⟩ rfl (Nat.le_of_ble_eq_true rfl) ?_
  exact j_vret hK dX4_mark_8 rfl (rt_V hA hf)
def f_X5_begin (S : St) : Option (Unit × St) := lt (sI S 10 1 (0 : Int32)) (fun S1 => some ((), S1))
theorem c_X5_begin {S : St} {r : Unit} {S' : St} (hf : f_X5_begin S = some (r, S')) : zM yX5_begin cX5_begin 1 1 none [.ref 10] S (none) S' := by
  refine zM_of (zpl (by decide)) (Nat.le_of_ble_eq_true rfl) rfl (fun K hK hA => ?_)
  unfold f_X5_begin at hf
  refine j_aload_n hK dX5_begin_0 0 rfl rfl ?_
  refine j_iconst hK (0 : Int32) dX5_begin_1 ic_0 ?_
  refine j_putI hK fl_X5_13 dX5_begin_2 zo_10 zf_5_1 ?_
  refine lt_S hf (fun S1 hf => ?_)
  exact j_vret hK dX5_begin_5 rfl (rt_V hA hf)
def f_X5_put (p1 : Int64) (S : St) : Option (Unit × St) := (if (16 : Int32) ≤ (gI S 10 1) then some ((), S) else if inb (gI S 10 1) 16 then lt (sL S 11 (gI S 10 1).toNatClampNeg p1) (fun S2 => lt (sI S2 10 1 ((gI S2 10 1) + (1 : Int32))) (fun S3 => some ((), S3))) else none)
theorem c_X5_put {p1 : Int64} {S : St} {r : Unit} {S' : St} (hf : f_X5_put p1 S = some (r, S')) : zM yX5_put cX5_put 3 1 none [.ref 10, .long p1] S (none) S' := by
  refine zM_of (zpl (by decide)) (Nat.le_of_ble_eq_true rfl) rfl (fun K hK hA => ?_)
  unfold f_X5_put at hf
  refine j_aload_n hK dX5_put_0 0 rfl rfl ?_
  refine j_getI hK fl_X5_13 dX5_put_1 zo_10 zf_5_1 ?_
  refine j_bipush hK (16 : Int32) dX5_put_4 bi_16 ?_
  refine j_icmp_ge hK 29 dX5_put_6 (by decide) (fun hc => ?_) (fun hc => ?_)
  · replace hf := if_1 hc hf
    exact j_vret hK dX5_put_29 rfl (rt_V hA hf)
  · replace hf := if_2 hc hf
    refine j_aload_n hK dX5_put_9 0 rfl rfl ?_
    refine j_getR hK fl_X5_9 dX5_put_10 zo_10 zf_5_0 zr_10_0 ?_
    refine j_aload_n hK dX5_put_13 0 rfl rfl ?_
    refine j_getI hK fl_X5_13 dX5_put_14 zo_10 zf_5_1 ?_
    refine j_lload_n hK dX5_put_17 1 rfl rfl ?_
    obtain ⟨hi1, hf⟩ := gd hf
    refine k_last hK dX5_put_18 zb_11 hi1 rfl ?_
    refine lt_S hf (fun S2 hf => ?_)
    refine j_aload_n hK dX5_put_19 0 rfl rfl ?_
    refine j_pc (pc' := 20) rfl ?_
    refine j_dup hK dX5_put_20 rfl ?_
    refine j_getI hK fl_X5_13 dX5_put_21 zo_10 zf_5_1 ?_
    refine j_iconst hK (1 : Int32) dX5_put_24 ic_1 ?_
    refine j_iadd hK dX5_put_25 ?_
    refine j_putI hK fl_X5_13 dX5_put_26 zo_10 zf_5_1 ?_
    refine lt_S hf (fun S3 hf => ?_)
    exact j_vret hK dX5_put_29 rfl (rt_V hA hf)
def f_X8_letter (p1 : Int32) (S : St) : Option (Int32 × St) := (if p1 < 0 then some ((-1 : Int32), S) else (if (80 : Int32) ≤ p1 then some ((-1 : Int32), S) else if inb p1 80 then some (((gI S 2 p1.toNatClampNeg) - (97 : Int32)), S) else none))
theorem c_X8_letter {p1 : Int32} {S : St} {r : Int32} {S' : St} (hf : f_X8_letter p1 S = some (r, S')) : zM yX8_letter cX8_letter 2 1 (some .int) [.ref 1, .int p1] S (some (.int r)) S' := by
  refine zM_of (zpl (by decide)) (Nat.le_of_ble_eq_true rfl) rfl (fun K hK hA => ?_)
  unfold f_X8_letter at hf
  refine j_iload_n hK dX8_letter_0 1 rfl rfl ?_
  refine j_if_lt hK 22 dX8_letter_1 (by decide) (fun hc => ?_) (fun hc => ?_)
  · replace hf := if_1 hc hf
    refine j_iconst hK (-1 : Int32) dX8_letter_22 ic_m1 ?_
    exact j_iret hK dX8_letter_23 rfl (rt_I hA hf)
  · replace hf := if_2 hc hf
    refine j_iload_n hK dX8_letter_4 1 rfl rfl ?_
    refine j_bipush hK (80 : Int32) dX8_letter_5 bi_80 ?_
    refine j_icmp_ge hK 22 dX8_letter_7 (by decide) (fun hc => ?_) (fun hc => ?_)
    · replace hf := if_1 hc hf
      refine j_iconst hK (-1 : Int32) dX8_letter_22 ic_m1 ?_
      exact j_iret hK dX8_letter_23 rfl (rt_I hA hf)
    · replace hf := if_2 hc hf
      refine j_aload_n hK dX8_letter_10 0 rfl rfl ?_
      refine j_getR hK fl_X8_11 dX8_letter_11 zo_1 zf_8_0 zr_1_0 ?_
      refine j_iload_n hK dX8_letter_14 1 rfl rfl ?_
      obtain ⟨hi1, hf⟩ := gd hf
      refine k_cald hK dX8_letter_15 zb_2 hi1 rfl ?_
      refine j_bipush hK (97 : Int32) dX8_letter_16 bi_97 ?_
      refine j_isub hK dX8_letter_18 ?_
      refine j_goto hK 23 dX8_letter_19 (by decide) ?_
      exact j_iret hK dX8_letter_23 rfl (rt_I hA hf)
def f_X6_joined (p0 : Int32) (p1 : Int32) (p2 : Int32) (S : St) : Option (Int32 × St) := (if p0 = (42 : Int32) then some ((p1 * p2), S) else (if p0 = (43 : Int32) then some ((p1 + p2), S) else (if p0 = (45 : Int32) then some ((p1 - p2), S) else (if p0 = (60 : Int32) then (if p2 ≤ p1 then some ((0 : Int32), S) else some ((1 : Int32), S)) else (if p0 = (61 : Int32) then (if p1 = p2 then some ((1 : Int32), S) else some ((0 : Int32), S)) else (if p0 = (62 : Int32) then (if p1 ≤ p2 then some ((0 : Int32), S) else some ((1 : Int32), S)) else (if p2 = 0 then some ((0 : Int32), S) else if ¬ p2 = 0 then some ((p1 / p2), S) else none)))))))
theorem c_X6_joined {p0 : Int32} {p1 : Int32} {p2 : Int32} {S : St} {r : Int32} {S' : St} (hf : f_X6_joined p0 p1 p2 S = some (r, S')) : zM yX6_joined cX6_joined 3 1 (some .int) [.int p0, .int p1, .int p2] S (some (.int r)) S' := by
  refine zM_of (zpl (by decide)) (Nat.le_of_ble_eq_true rfl) rfl (fun K hK hA => ?_)
  unfold f_X6_joined at hf
  refine j_iload_n hK dX6_joined_0 0 rfl rfl ?_
  by_cases hs1 : p0 = (42 : Int32)
  · replace hf := if_1 hs1 hf
    refine j_lookC (off := 100) hK (42 : Int32) 101 dX6_joined_1 hs1 (by decide) (by decide) (by decide) ?_
    refine j_iload_n hK dX6_joined_101 1 rfl rfl ?_
    refine j_iload_n hK dX6_joined_102 2 rfl rfl ?_
    refine j_imul hK dX6_joined_103 ?_
    exact j_iret hK dX6_joined_104 rfl (rt_I hA hf)
  · replace hf := if_2 hs1 hf
    by_cases hs2 : p0 = (43 : Int32)
    · replace hf := if_1 hs2 hf
      refine j_lookC (off := 92) hK (43 : Int32) 93 dX6_joined_1 hs2 (by decide) (by decide) (by decide) ?_
      refine j_iload_n hK dX6_joined_93 1 rfl rfl ?_
      refine j_iload_n hK dX6_joined_94 2 rfl rfl ?_
      refine j_iadd hK dX6_joined_95 ?_
      exact j_iret hK dX6_joined_96 rfl (rt_I hA hf)
    · replace hf := if_2 hs2 hf
      by_cases hs3 : p0 = (45 : Int32)
      · replace hf := if_1 hs3 hf
        refine j_lookC (off := 96) hK (45 : Int32) 97 dX6_joined_1 hs3 (by decide) (by decide) (by decide) ?_
        refine j_iload_n hK dX6_joined_97 1 rfl rfl ?_
        refine j_iload_n hK dX6_joined_98 2 rfl rfl ?_
        refine j_isub hK dX6_joined_99 ?_
        exact j_iret hK dX6_joined_100 rfl (rt_I hA hf)
      · replace hf := if_2 hs3 hf
        by_cases hs4 : p0 = (60 : Int32)
        · replace hf := if_1 hs4 hf
          refine j_lookC (off := 59) hK (60 : Int32) 60 dX6_joined_1 hs4 (by decide) (by decide) (by decide) ?_
          refine j_iload_n hK dX6_joined_60 1 rfl rfl ?_
          refine j_iload_n hK dX6_joined_61 2 rfl rfl ?_
          refine j_icmp_ge hK 69 dX6_joined_62 (by decide) (fun hc => ?_) (fun hc => ?_)
          · replace hf := if_1 hc hf
            refine j_iconst hK (0 : Int32) dX6_joined_69 ic_0 ?_
            exact j_iret hK dX6_joined_70 rfl (rt_I hA hf)
          · replace hf := if_2 hc hf
            refine j_iconst hK (1 : Int32) dX6_joined_65 ic_1 ?_
            refine j_goto hK 70 dX6_joined_66 (by decide) ?_
            exact j_iret hK dX6_joined_70 rfl (rt_I hA hf)
        · replace hf := if_2 hs4 hf
          by_cases hs5 : p0 = (61 : Int32)
          · replace hf := if_1 hs5 hf
            refine j_lookC (off := 81) hK (61 : Int32) 82 dX6_joined_1 hs5 (by decide) (by decide) (by decide) ?_
            refine j_iload_n hK dX6_joined_82 1 rfl rfl ?_
            refine j_iload_n hK dX6_joined_83 2 rfl rfl ?_
            refine j_icmp_ne hK 91 dX6_joined_84 (by decide) (fun hc => ?_) (fun hc => ?_)
            · replace hf := if_2 hc hf
              refine j_iconst hK (0 : Int32) dX6_joined_91 ic_0 ?_
              exact j_iret hK dX6_joined_92 rfl (rt_I hA hf)
            · replace hf := if_1 hc hf
              refine j_iconst hK (1 : Int32) dX6_joined_87 ic_1 ?_
              refine j_goto hK 92 dX6_joined_88 (by decide) ?_
              exact j_iret hK dX6_joined_92 rfl (rt_I hA hf)
          · replace hf := if_2 hs5 hf
            by_cases hs6 : p0 = (62 : Int32)
            · replace hf := if_1 hs6 hf
              refine j_lookC (off := 70) hK (62 : Int32) 71 dX6_joined_1 hs6 (by decide) (by decide) (by decide) ?_
              refine j_iload_n hK dX6_joined_71 1 rfl rfl ?_
              refine j_iload_n hK dX6_joined_72 2 rfl rfl ?_
              refine j_icmp_le hK 80 dX6_joined_73 (by decide) (fun hc => ?_) (fun hc => ?_)
              · replace hf := if_1 hc hf
                refine j_iconst hK (0 : Int32) dX6_joined_80 ic_0 ?_
                exact j_iret hK dX6_joined_81 rfl (rt_I hA hf)
              · replace hf := if_2 hc hf
                refine j_iconst hK (1 : Int32) dX6_joined_76 ic_1 ?_
                refine j_goto hK 81 dX6_joined_77 (by decide) ?_
                exact j_iret hK dX6_joined_81 rfl (rt_I hA hf)
            · replace hf := if_2 hs6 hf
              refine j_lookup (off := 104) hK 105 dX6_joined_1 (by decide) ((lv_osw (k := (42 : Int32)) hs1 (by decide)).trans ((lv_osw (k := (43 : Int32)) hs2 (by decide)).trans ((lv_osw (k := (45 : Int32)) hs3 (by decide)).trans ((lv_osw (k := (60 : Int32)) hs4 (by decide)).trans ((lv_osw (k := (61 : Int32)) hs5 (by decide)).trans ((lv_osw (k := (62 : Int32)) hs6 (by decide)).trans rfl)))))) (by decide) ?_
              refine j_iload_n hK dX6_joined_105 2 rfl rfl ?_
              refine j_if_ne hK 113 dX6_joined_106 (by decide) (fun hc => ?_) (fun hc => ?_)
              · replace hf := if_2 hc hf
                refine j_iload_n hK dX6_joined_113 1 rfl rfl ?_
                refine j_iload_n hK dX6_joined_114 2 rfl rfl ?_
                obtain ⟨hn7, hf⟩ := gd hf
                refine j_idiv hK dX6_joined_115 hn7 ?_
                exact j_iret hK dX6_joined_116 rfl (rt_I hA hf)
              · replace hf := if_1 hc hf
                refine j_iconst hK (0 : Int32) dX6_joined_109 ic_0 ?_
                refine j_goto hK 116 dX6_joined_110 (by decide) ?_
                exact j_iret hK dX6_joined_116 rfl (rt_I hA hf)
def f_X6_valueOfThings_137 (o : Nat) (x1 : Int32) (x2 : Int32) (k e : Int32 × Int32 → St → Option (Int32 × St)) (S : St) : Option (Int32 × St) := k (x1, (x2 + (1 : Int32))) S
theorem t_X6_valueOfThings_137 {K : CT} (hK : KO K cX6_valueOfThings RX6 4 2 (some .int)) {r : Int32} {S' : St} (hA : zans K (some (.int r), S')) {o : Nat} (ho : isRule o) {x1 : Int32} {x2 : Int32} {k e : Int32 × Int32 → St → Option (Int32 × St)} (hk : ∀ (v : Int32 × Int32) (S : St), k v S = some (r, S') → J K 4 [(0, .ref o), (1, .int v.1), (2, .int v.2)] [] S) (he : ∀ (v : Int32 × Int32) (S : St), e v S = some (r, S') → J K 143 [(0, .ref o)] [] S) {S : St} (hf : f_X6_valueOfThings_137 o x1 x2 k e S = some (r, S')) : J K 137 [(0, .ref o), (1, .int x1), (2, .int x2)] [] S := by
  unfold f_X6_valueOfThings_137 at hf
  refine j_iinc hK (L' := [(2, .int (x2 + (1 : Int32))), (0, .ref o), (1, .int x1)]) dX6_valueOfThings_137 2 rfl (congrArg (fun y => x2 + y) ic_1) (by decide) rfl ?_
  refine j_goto hK 4 dX6_valueOfThings_140 (by decide) ?_
  refine j_sub [1, 2, 0] rfl ?_
  exact hk _ _ hf
def f_X6_valueOfThings_99 (o : Nat) (x1 : Int32) (x2 : Int32) (x3 : Int32) (k e : Int32 × Int32 → St → Option (Int32 × St)) (S : St) : Option (Int32 × St) := (if x1 ≤ (1 : Int32) then f_X6_valueOfThings_137 o x1 x2 k e S else if inb ((x1 + (-1 : Int32)) - (1 : Int32)) 40 then if inb (x1 + (-1 : Int32)) 40 then bd (f_X6_joined (x3 - (2000 : Int32)) (gI S (o + 4) ((x1 + (-1 : Int32)) - (1 : Int32)).toNatClampNeg) (gI S (o + 4) (x1 + (-1 : Int32)).toNatClampNeg) S) (fun r3 S4 => if inb ((x1 + (-1 : Int32)) - (1 : Int32)) 40 then lt (sI S4 (o + 4) ((x1 + (-1 : Int32)) - (1 : Int32)).toNatClampNeg r3) (fun S7 => f_X6_valueOfThings_137 o (x1 + (-1 : Int32)) x2 k e S7) else none) else none else none)
theorem t_X6_valueOfThings_99 {K : CT} (hK : KO K cX6_valueOfThings RX6 4 2 (some .int)) {r : Int32} {S' : St} (hA : zans K (some (.int r), S')) {o : Nat} (ho : isRule o) {x1 : Int32} {x2 : Int32} {x3 : Int32} {k e : Int32 × Int32 → St → Option (Int32 × St)} (hk : ∀ (v : Int32 × Int32) (S : St), k v S = some (r, S') → J K 4 [(0, .ref o), (1, .int v.1), (2, .int v.2)] [] S) (he : ∀ (v : Int32 × Int32) (S : St), e v S = some (r, S') → J K 143 [(0, .ref o)] [] S) {S : St} (hf : f_X6_valueOfThings_99 o x1 x2 x3 k e S = some (r, S')) : J K 99 [(0, .ref o), (1, .int x1), (2, .int x2), (3, .int x3)] [] S := by
  unfold f_X6_valueOfThings_99 at hf
  refine j_iload_n hK dX6_valueOfThings_99 1 rfl rfl ?_
  refine j_iconst hK (1 : Int32) dX6_valueOfThings_100 ic_1 ?_
  refine j_icmp_le hK 137 dX6_valueOfThings_101 (by decide) (fun hc => ?_) (fun hc => ?_)
  · replace hf := if_1 hc hf
    refine j_sub [0, 1, 2] rfl ?_
    exact t_X6_valueOfThings_137 hK hA ho hk he hf
  · replace hf := if_2 hc hf
    refine j_iinc hK (L' := [(1, .int (x1 + (-1 : Int32))), (0, .ref o), (2, .int x2), (3, .int x3)]) dX6_valueOfThings_104 1 rfl (congrArg (fun y => x1 + y) ic_m1) (by decide) rfl ?_
    refine j_aload_n hK dX6_valueOfThings_107 1 rfl rfl ?_
    refine j_getR hK fl_X6_42 dX6_valueOfThings_108 (ru_o ho) zf_6_9 (ru_r9 ho) ?_
    refine j_iload_n hK dX6_valueOfThings_111 0 rfl rfl ?_
    refine j_iconst hK (1 : Int32) dX6_valueOfThings_112 ic_1 ?_
    refine j_isub hK dX6_valueOfThings_113 ?_
    refine j_iload_n hK dX6_valueOfThings_114 3 rfl rfl ?_
    refine j_pc (pc' := 115) rfl ?_
    refine j_sipush hK (2000 : Int32) dX6_valueOfThings_115 si_2000 ?_
    refine j_isub hK dX6_valueOfThings_118 ?_
    refine j_aload_n hK dX6_valueOfThings_119 1 rfl rfl ?_
    refine j_getR hK fl_X6_42 dX6_valueOfThings_120 (ru_o ho) zf_6_9 (ru_r9 ho) ?_
    refine j_iload_n hK dX6_valueOfThings_123 0 rfl rfl ?_
    refine j_iconst hK (1 : Int32) dX6_valueOfThings_124 ic_1 ?_
    refine j_isub hK dX6_valueOfThings_125 ?_
    obtain ⟨hi1, hf⟩ := gd hf
    refine k_iald hK dX6_valueOfThings_126 (ru_b4 ho) hi1 rfl ?_
    refine j_pc (pc' := 127) rfl ?_
    refine j_aload_n hK dX6_valueOfThings_127 1 rfl rfl ?_
    refine j_getR hK fl_X6_42 dX6_valueOfThings_128 (ru_o ho) zf_6_9 (ru_r9 ho) ?_
    refine j_iload_n hK dX6_valueOfThings_131 0 rfl rfl ?_
    obtain ⟨hi2, hf⟩ := gd hf
    refine k_iald hK dX6_valueOfThings_132 (ru_b4 ho) hi2 rfl ?_
    obtain ⟨r3, S4, h5, hf⟩ := bd_J hf
    refine k_callSi hK (c_X6_joined h5) dX6_valueOfThings_133 ml_X6_122 ms_X6_joined in_X6 mc_X6_joined hy_X6_joined ⟨by decide, by decide⟩ rfl (Nat.le_of_ble_eq_true rfl) ?_
    obtain ⟨hi6, hf⟩ := gd hf
    refine k_iast hK dX6_valueOfThings_136 (ru_b4 ho) hi6 rfl ?_
    refine lt_S hf (fun S7 hf => ?_)
    refine j_sub [1, 0, 2] rfl ?_
    exact t_X6_valueOfThings_137 hK hA ho hk he hf
def f_X6_valueOfThings_4b (o : Nat) (e : Int32 × Int32 → St → Option (Int32 × St)) (k : Int32 × Int32 → St → Option (Int32 × St)) (v : Int32 × Int32) (S : St) : Option (Int32 × St) := (if (gI S o 1) ≤ v.2 then e (v.1, v.2) S else if inb v.2 40 then lt (gI S (o + 1) v.2.toNatClampNeg) (fun y9 => (if (1000 : Int32) ≤ y9 then (if (2000 : Int32) ≤ y9 then (if y9 = (2126 : Int32) then (if v.1 ≤ 0 then f_X6_valueOfThings_99 o v.1 v.2 y9 k e S else if inb (v.1 - (1 : Int32)) 40 then if inb (v.1 - (1 : Int32)) 40 then lt (sI S (o + 4) (v.1 - (1 : Int32)).toNatClampNeg (-(gI S (o + 4) (v.1 - (1 : Int32)).toNatClampNeg))) (fun S12 => f_X6_valueOfThings_137 o v.1 v.2 k e S12) else none else none) else f_X6_valueOfThings_99 o v.1 v.2 y9 k e S) else if inb (y9 - (1000 : Int32)) 7 then if inb v.1 40 then lt (sI S (o + 4) v.1.toNatClampNeg (gI S (o + 3) (y9 - (1000 : Int32)).toNatClampNeg)) (fun S15 => f_X6_valueOfThings_137 o (v.1 + (1 : Int32)) v.2 k e S15) else none else none) else if inb v.1 40 then lt (sI S (o + 4) v.1.toNatClampNeg y9) (fun S17 => f_X6_valueOfThings_137 o (v.1 + (1 : Int32)) v.2 k e S17) else none)) else none)
theorem t_X6_valueOfThings_4 {K : CT} (hK : KO K cX6_valueOfThings RX6 4 2 (some .int)) {r : Int32} {S' : St} (hA : zans K (some (.int r), S')) {o : Nat} (ho : isRule o) {e : Int32 × Int32 → St → Option (Int32 × St)} (he : ∀ (v : Int32 × Int32) (S : St), e v S = some (r, S') → J K 143 [(0, .ref o)] [] S) : ∀ (n : Nat) (v : Int32 × Int32) (S : St), lp (f_X6_valueOfThings_4b o e) n v S = some (r, S') → J K 4 [(0, .ref o), (1, .int v.1), (2, .int v.2)] [] S :=
  lp_J (P := fun (v : Int32 × Int32) (S : St) => J K 4 [(0, .ref o), (1, .int v.1), (2, .int v.2)] [] S) (fun k hk v S hf => by
    unfold f_X6_valueOfThings_4b at hf
    refine j_iload_n hK dX6_valueOfThings_4 2 rfl rfl ?_
    refine j_aload_n hK dX6_valueOfThings_5 0 rfl rfl ?_
    refine j_getI hK fl_X6_15 dX6_valueOfThings_6 (ru_o ho) zf_6_1 ?_
    refine j_icmp_ge hK 143 dX6_valueOfThings_9 (by decide) (fun hc => ?_) (fun hc => ?_)
    · replace hf := if_1 hc hf
      refine j_sub [0] rfl ?_
      exact he _ _ hf
    · replace hf := if_2 hc hf
      refine j_aload_n hK dX6_valueOfThings_12 0 rfl rfl ?_
      refine j_getR hK fl_X6_11 dX6_valueOfThings_13 (ru_o ho) zf_6_0 (ru_r0 ho) ?_
      refine j_iload_n hK dX6_valueOfThings_16 2 rfl rfl ?_
      obtain ⟨hi8, hf⟩ := gd hf
      refine k_iald hK dX6_valueOfThings_17 (ru_b1 ho) hi8 rfl ?_
      refine lt_I hf (fun y9 hf => ?_)
      refine j_istore_n hK (L' := [(3, .int y9), (0, .ref o), (1, .int v.1), (2, .int v.2)]) dX6_valueOfThings_18 rfl (by decide) rfl ?_
      refine j_iload_n hK dX6_valueOfThings_19 0 rfl rfl ?_
      refine j_sipush hK (1000 : Int32) dX6_valueOfThings_20 si_1000 ?_
      refine j_pc (pc' := 23) rfl ?_
      refine j_icmp_ge hK 39 dX6_valueOfThings_23 (by decide) (fun hc => ?_) (fun hc => ?_)
      · replace hf := if_1 hc hf
        refine j_iload_n hK dX6_valueOfThings_39 0 rfl rfl ?_
        refine j_sipush hK (2000 : Int32) dX6_valueOfThings_40 si_2000 ?_
        refine j_icmp_ge hK 68 dX6_valueOfThings_43 (by decide) (fun hc => ?_) (fun hc => ?_)
        · replace hf := if_1 hc hf
          refine j_iload_n hK dX6_valueOfThings_68 0 rfl rfl ?_
          refine j_sipush hK (2126 : Int32) dX6_valueOfThings_69 si_2126 ?_
          refine j_icmp_ne hK 99 dX6_valueOfThings_72 (by decide) (fun hc => ?_) (fun hc => ?_)
          · replace hf := if_2 hc hf
            refine j_sub [1, 2, 3, 0] rfl ?_
            exact t_X6_valueOfThings_99 hK hA ho hk he hf
          · replace hf := if_1 hc hf
            refine j_iload_n hK dX6_valueOfThings_75 2 rfl rfl ?_
            refine j_if_le hK 99 dX6_valueOfThings_76 (by decide) (fun hc => ?_) (fun hc => ?_)
            · replace hf := if_1 hc hf
              refine j_sub [1, 2, 3, 0] rfl ?_
              exact t_X6_valueOfThings_99 hK hA ho hk he hf
            · replace hf := if_2 hc hf
              refine j_aload_n hK dX6_valueOfThings_79 1 rfl rfl ?_
              refine j_getR hK fl_X6_42 dX6_valueOfThings_80 (ru_o ho) zf_6_9 (ru_r9 ho) ?_
              refine j_iload_n hK dX6_valueOfThings_83 2 rfl rfl ?_
              refine j_iconst hK (1 : Int32) dX6_valueOfThings_84 ic_1 ?_
              refine j_isub hK dX6_valueOfThings_85 ?_
              refine j_aload_n hK dX6_valueOfThings_86 1 rfl rfl ?_
              refine j_getR hK fl_X6_42 dX6_valueOfThings_87 (ru_o ho) zf_6_9 (ru_r9 ho) ?_
              refine j_pc (pc' := 90) rfl ?_
              refine j_iload_n hK dX6_valueOfThings_90 2 rfl rfl ?_
              refine j_iconst hK (1 : Int32) dX6_valueOfThings_91 ic_1 ?_
              refine j_isub hK dX6_valueOfThings_92 ?_
              obtain ⟨hi10, hf⟩ := gd hf
              refine k_iald hK dX6_valueOfThings_93 (ru_b4 ho) hi10 rfl ?_
              refine j_ineg hK dX6_valueOfThings_94 ?_
              obtain ⟨hi11, hf⟩ := gd hf
              refine k_iast hK dX6_valueOfThings_95 (ru_b4 ho) hi11 rfl ?_
              refine lt_S hf (fun S12 hf => ?_)
              refine j_goto hK 137 dX6_valueOfThings_96 (by decide) ?_
              refine j_sub [1, 2, 3] rfl ?_
              exact t_X6_valueOfThings_137 hK hA ho hk he hf
        · replace hf := if_2 hc hf
          refine j_aload_n hK dX6_valueOfThings_46 1 rfl rfl ?_
          refine j_getR hK fl_X6_42 dX6_valueOfThings_47 (ru_o ho) zf_6_9 (ru_r9 ho) ?_
          refine j_iload_n hK dX6_valueOfThings_50 2 rfl rfl ?_
          refine j_aload_n hK dX6_valueOfThings_51 1 rfl rfl ?_
          refine j_getR hK fl_X6_39 dX6_valueOfThings_52 (ru_o ho) zf_6_8 (ru_r8 ho) ?_
          refine j_iload_n hK dX6_valueOfThings_55 0 rfl rfl ?_
          refine j_sipush hK (1000 : Int32) dX6_valueOfThings_56 si_1000 ?_
          refine j_pc (pc' := 59) rfl ?_
          refine j_isub hK dX6_valueOfThings_59 ?_
          obtain ⟨hi13, hf⟩ := gd hf
          refine k_iald hK dX6_valueOfThings_60 (ru_b3 ho) hi13 rfl ?_
          obtain ⟨hi14, hf⟩ := gd hf
          refine k_iast hK dX6_valueOfThings_61 (ru_b4 ho) hi14 rfl ?_
          refine lt_S hf (fun S15 hf => ?_)
          refine j_iinc hK (L' := [(1, .int (v.1 + (1 : Int32))), (3, .int y9), (0, .ref o), (2, .int v.2)]) dX6_valueOfThings_62 2 rfl (congrArg (fun y => v.1 + y) ic_1) (by decide) rfl ?_
          refine j_goto hK 137 dX6_valueOfThings_65 (by decide) ?_
          refine j_sub [2, 0, 3] rfl ?_
          exact t_X6_valueOfThings_137 hK hA ho hk he hf
      · replace hf := if_2 hc hf
        refine j_aload_n hK dX6_valueOfThings_26 1 rfl rfl ?_
        refine j_getR hK fl_X6_42 dX6_valueOfThings_27 (ru_o ho) zf_6_9 (ru_r9 ho) ?_
        refine j_iload_n hK dX6_valueOfThings_30 2 rfl rfl ?_
        refine j_iload_n hK dX6_valueOfThings_31 0 rfl rfl ?_
        obtain ⟨hi16, hf⟩ := gd hf
        refine k_iast hK dX6_valueOfThings_32 (ru_b4 ho) hi16 rfl ?_
        refine lt_S hf (fun S17 hf => ?_)
        refine j_iinc hK (L' := [(1, .int (v.1 + (1 : Int32))), (3, .int y9), (0, .ref o), (2, .int v.2)]) dX6_valueOfThings_33 2 rfl (congrArg (fun y => v.1 + y) ic_1) (by decide) rfl ?_
        refine j_goto hK 137 dX6_valueOfThings_36 (by decide) ?_
        refine j_sub [2, 0, 3] rfl ?_
        exact t_X6_valueOfThings_137 hK hA ho hk he hf)
def f_X6_valueOfThings (o : Nat) (S : St) : Option (Int32 × St) := lp (f_X6_valueOfThings_4b o (fun v18 S19 => some ((gI S19 (o + 4) 0), S19))) FU ((0 : Int32), (0 : Int32)) S
theorem c_X6_valueOfThings {o : Nat} (ho : isRule o) {S : St} {r : Int32} {S' : St} (hf : f_X6_valueOfThings o S = some (r, S')) : zM yX6_valueOfThings cX6_valueOfThings 4 2 (some .int) [.ref o] S (some (.int r)) S' := by
  refine zM_of (zpl (by decide)) (Nat.le_of_ble_eq_true rfl) rfl (fun K hK hA => ?_)
  unfold f_X6_valueOfThings at hf
  refine j_iconst hK (0 : Int32) dX6_valueOfThings_0 ic_0 ?_
  refine j_istore_n hK (L' := [(1, .int (0 : Int32)), (0, .ref o)]) dX6_valueOfThings_1 rfl (by decide) rfl ?_
  refine j_iconst hK (0 : Int32) dX6_valueOfThings_2 ic_0 ?_
  refine j_istore_n hK (L' := [(2, .int (0 : Int32)), (1, .int (0 : Int32)), (0, .ref o)]) dX6_valueOfThings_3 rfl (by decide) rfl ?_
  refine j_sub [2, 1, 0] rfl ?_
  refine t_X6_valueOfThings_4 hK hA ho (fun v18 S19 hf => ?_) _ _ _ hf
  refine j_aload_n hK dX6_valueOfThings_143 0 rfl rfl ?_
  refine j_getR hK fl_X6_42 dX6_valueOfThings_144 (ru_o ho) zf_6_9 (ru_r9 ho) ?_
  refine j_iconst hK (0 : Int32) dX6_valueOfThings_147 ic_0 ?_
  refine k_iald hK dX6_valueOfThings_148 (ru_b4 ho) (by decide) tn_0 ?_
  exact j_iret hK dX6_valueOfThings_149 rfl (rt_I hA hf)
def f_X6_changed (o : Nat) (p2 : Int32) (p3 : Int32) (p4 : Int32) (p5 : Int32) (S : St) : Option (Int32 × St) := (if (gI S o 1) = 0 then if inb p2 12 then if inb p2 12 then lt ((p5 + (gI S 8 p2.toNatClampNeg)) - ((gI S 9 p2.toNatClampNeg) / (3 : Int32))) (fun y16 => some ((y16 &&& (7 : Int32)), S)) else none else none else lt (sI S (o + 3) 0 p5) (fun S1 => if inb p2 12 then lt (sI S1 (o + 3) 1 (gI S1 8 p2.toNatClampNeg)) (fun S3 => if inb p2 12 then lt (sI S3 (o + 3) 2 (gI S3 9 p2.toNatClampNeg)) (fun S5 => if inb p2 12 then lt (sI S5 (o + 3) 3 (gI S5 7 p2.toNatClampNeg)) (fun S7 => lt (sI S7 (o + 3) 4 p4) (fun S8 => lt (sI S8 (o + 3) 5 ((gI S8 6 4) - (gI S8 6 4) / (7 : Int32) * (7 : Int32))) (fun S9 => lt (sI S9 (o + 3) 6 p3) (fun S10 => bd (f_X6_valueOfThings o S10) (fun r11 S12 => some ((r11 &&& (7 : Int32)), S12)))))) else none) else none) else none))
theorem c_X6_changed {o : Nat} (ho : isRule o) {p2 : Int32} {p3 : Int32} {p4 : Int32} {p5 : Int32} {S : St} {r : Int32} {S' : St} (hf : f_X6_changed o p2 p3 p4 p5 S = some (r, S')) : zM yX6_changed cX6_changed 6 3 (some .int) [.ref o, .ref 6, .int p2, .int p3, .int p4, .int p5] S (some (.int r)) S' := by
  refine zM_of (zpl (by decide)) (Nat.le_of_ble_eq_true rfl) rfl (fun K hK hA => ?_)
  unfold f_X6_changed at hf
  refine j_aload_n hK dX6_changed_0 0 rfl rfl ?_
  refine j_getI hK fl_X6_15 dX6_changed_1 (ru_o ho) zf_6_1 ?_
  refine j_if_ne hK 29 dX6_changed_4 (by decide) (fun hc => ?_) (fun hc => ?_)
  · replace hf := if_2 hc hf
    refine j_aload_n hK dX6_changed_29 0 rfl rfl ?_
    refine j_getR hK fl_X6_39 dX6_changed_30 (ru_o ho) zf_6_8 (ru_r8 ho) ?_
    refine j_iconst hK (0 : Int32) dX6_changed_33 ic_0 ?_
    refine j_iload hK dX6_changed_34 5 rfl ?_
    refine k_iast hK dX6_changed_36 (ru_b3 ho) (by decide) tn_0 ?_
    refine lt_S hf (fun S1 hf => ?_)
    refine j_aload_n hK dX6_changed_37 0 rfl rfl ?_
    refine j_getR hK fl_X6_39 dX6_changed_38 (ru_o ho) zf_6_8 (ru_r8 ho) ?_
    refine j_pc (pc' := 41) rfl ?_
    refine j_iconst hK (1 : Int32) dX6_changed_41 ic_1 ?_
    refine j_aload_n hK dX6_changed_42 1 rfl rfl ?_
    refine j_getR hK fl_X6_104 dX6_changed_43 zo_6 zf_7_1 zr_6_1 ?_
    refine j_iload_n hK dX6_changed_46 2 rfl rfl ?_
    obtain ⟨hi2, hf⟩ := gd hf
    refine k_iald hK dX6_changed_47 zb_8 hi2 rfl ?_
    refine k_iast hK dX6_changed_48 (ru_b3 ho) (by decide) tn_1 ?_
    refine lt_S hf (fun S3 hf => ?_)
    refine j_aload_n hK dX6_changed_49 0 rfl rfl ?_
    refine j_getR hK fl_X6_39 dX6_changed_50 (ru_o ho) zf_6_8 (ru_r8 ho) ?_
    refine j_pc (pc' := 53) rfl ?_
    refine j_iconst hK (2 : Int32) dX6_changed_53 ic_2 ?_
    refine j_aload_n hK dX6_changed_54 1 rfl rfl ?_
    refine j_getR hK fl_X6_109 dX6_changed_55 zo_6 zf_7_2 zr_6_2 ?_
    refine j_iload_n hK dX6_changed_58 2 rfl rfl ?_
    obtain ⟨hi4, hf⟩ := gd hf
    refine k_iald hK dX6_changed_59 zb_9 hi4 rfl ?_
    refine k_iast hK dX6_changed_60 (ru_b3 ho) (by decide) tn_2 ?_
    refine lt_S hf (fun S5 hf => ?_)
    refine j_aload_n hK dX6_changed_61 0 rfl rfl ?_
    refine j_getR hK fl_X6_39 dX6_changed_62 (ru_o ho) zf_6_8 (ru_r8 ho) ?_
    refine j_pc (pc' := 65) rfl ?_
    refine j_iconst hK (3 : Int32) dX6_changed_65 ic_3 ?_
    refine j_aload_n hK dX6_changed_66 1 rfl rfl ?_
    refine j_getR hK fl_X6_112 dX6_changed_67 zo_6 zf_7_0 zr_6_0 ?_
    refine j_iload_n hK dX6_changed_70 2 rfl rfl ?_
    obtain ⟨hi6, hf⟩ := gd hf
    refine k_iald hK dX6_changed_71 zb_7 hi6 rfl ?_
    refine k_iast hK dX6_changed_72 (ru_b3 ho) (by decide) tn_3 ?_
    refine lt_S hf (fun S7 hf => ?_)
    refine j_aload_n hK dX6_changed_73 0 rfl rfl ?_
    refine j_getR hK fl_X6_39 dX6_changed_74 (ru_o ho) zf_6_8 (ru_r8 ho) ?_
    refine j_pc (pc' := 77) rfl ?_
    refine j_iconst hK (4 : Int32) dX6_changed_77 ic_4 ?_
    refine j_iload hK dX6_changed_78 4 rfl ?_
    refine k_iast hK dX6_changed_80 (ru_b3 ho) (by decide) tn_4 ?_
    refine lt_S hf (fun S8 hf => ?_)
    refine j_aload_n hK dX6_changed_81 0 rfl rfl ?_
    refine j_getR hK fl_X6_39 dX6_changed_82 (ru_o ho) zf_6_8 (ru_r8 ho) ?_
    refine j_iconst hK (5 : Int32) dX6_changed_85 ic_5 ?_
    refine j_aload_n hK dX6_changed_86 1 rfl rfl ?_
    refine j_getI hK fl_X6_115 dX6_changed_87 zo_6 zf_7_4 ?_
    refine j_pc (pc' := 90) rfl ?_
    refine j_bipush hK (7 : Int32) dX6_changed_90 bi_7 ?_
    refine j_irem hK dX6_changed_92 (by decide) ?_
    refine k_iast hK dX6_changed_93 (ru_b3 ho) (by decide) tn_5 ?_
    refine lt_S hf (fun S9 hf => ?_)
    refine j_aload_n hK dX6_changed_94 0 rfl rfl ?_
    refine j_getR hK fl_X6_39 dX6_changed_95 (ru_o ho) zf_6_8 (ru_r8 ho) ?_
    refine j_bipush hK (6 : Int32) dX6_changed_98 bi_6 ?_
    refine j_iload_n hK dX6_changed_100 3 rfl rfl ?_
    refine k_iast hK dX6_changed_101 (ru_b3 ho) (by decide) tn_6 ?_
    refine lt_S hf (fun S10 hf => ?_)
    refine j_pc (pc' := 102) rfl ?_
    refine j_aload_n hK dX6_changed_102 0 rfl rfl ?_
    obtain ⟨r11, S12, h13, hf⟩ := bd_J hf
    refine k_callVi hK (c_X6_valueOfThings ho h13) dX6_changed_103 zclX6 (ru_o ho) ml_X6_118 mi_X6_valueOfThings mx_X6_valueOfThings in_X6 mc_X6_valueOfThings hy_X6_valueOfThings ⟨by decide, by decide⟩ rfl (Nat.le_of_ble_eq_true rfl) ?_
    refine j_bipush hK (7 : Int32) dX6_changed_106 bi_7 ?_
    refine j_iand hK dX6_changed_108 ?_
    exact j_iret hK dX6_changed_109 rfl (rt_I hA hf)
  · replace hf := if_1 hc hf
    refine j_iload hK dX6_changed_7 5 rfl ?_
    refine j_aload_n hK dX6_changed_9 1 rfl rfl ?_
    refine j_getR hK fl_X6_104 dX6_changed_10 zo_6 zf_7_1 zr_6_1 ?_
    refine j_iload_n hK dX6_changed_13 2 rfl rfl ?_
    obtain ⟨hi14, hf⟩ := gd hf
    refine k_iald hK dX6_changed_14 zb_8 hi14 rfl ?_
    refine j_iadd hK dX6_changed_15 ?_
    refine j_aload_n hK dX6_changed_16 1 rfl rfl ?_
    refine j_pc (pc' := 17) rfl ?_
    refine j_getR hK fl_X6_109 dX6_changed_17 zo_6 zf_7_2 zr_6_2 ?_
    refine j_iload_n hK dX6_changed_20 2 rfl rfl ?_
    obtain ⟨hi15, hf⟩ := gd hf
    refine k_iald hK dX6_changed_21 zb_9 hi15 rfl ?_
    refine j_iconst hK (3 : Int32) dX6_changed_22 ic_3 ?_
    refine j_idiv hK dX6_changed_23 (by decide) ?_
    refine j_isub hK dX6_changed_24 ?_
    refine lt_I hf (fun y16 hf => ?_)
    refine j_bipush hK (7 : Int32) dX6_changed_25 bi_7 ?_
    refine j_iand hK dX6_changed_27 ?_
    refine j_pc (pc' := 28) rfl ?_
    exact j_iret hK dX6_changed_28 rfl (rt_I hA hf)
