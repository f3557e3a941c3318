def f_X0_add (p1 : Int32) (p2 : Int32) (p3 : Int32) (p4 : Int32) (S : St) : Option (Unit × St) := (if (gI S 3 2) < (12 : Int32) then if inb (gI S 3 2) 12 then lt (sI S 4 (gI S 3 2).toNatClampNeg p1) (fun S2 => if inb (gI S2 3 2) 12 then lt (sI S2 5 (gI S2 3 2).toNatClampNeg p2) (fun S4 => if inb (gI S4 3 2) 12 then lt (sI S4 7 (gI S4 3 2).toNatClampNeg p3) (fun S6 => if inb (gI S6 3 2) 12 then lt (sI S6 8 (gI S6 3 2).toNatClampNeg p4) (fun S8 => if inb (gI S8 3 2) 12 then lt (sI S8 9 (gI S8 3 2).toNatClampNeg (0 : Int32)) (fun S10 => lt (sI S10 6 3 ((gI S10 6 3) ||| ((1 : Int32) <<< ((gI S10 3 2) &&& 31)))) (fun S11 => lt (sI S11 3 2 ((gI S11 3 2) + (1 : Int32))) (fun S12 => some ((), S12)))) else none) else none) else none) else none) else none else some ((), S))
theorem c_X0_add {p1 : Int32} {p2 : Int32} {p3 : Int32} {p4 : Int32} {S : St} {r : Unit} {S' : St} (hf : f_X0_add p1 p2 p3 p4 S = some (r, S')) : zM yX0_add cX0_add 5 1 none [.ref 3, .int p1, .int p2, .int p3, .int p4] S (none) S' := by
  refine zM_of (zpl (by decide)) (Nat.le_of_ble_eq_true rfl) rfl (fun K hK hA => ?_)
  unfold f_X0_add at hf
  refine j_aload_n hK dX0_add_0 0 rfl rfl ?_
  refine j_getI hK fl_X0_18 dX0_add_1 zo_3 zf_0_2 ?_
  refine j_bipush hK (12 : Int32) dX0_add_4 bi_12 ?_
  refine j_icmp_lt hK 10 dX0_add_6 (by decide) (fun hc => ?_) (fun hc => ?_)
  · replace hf := if_1 hc hf
    refine j_aload_n hK dX0_add_10 0 rfl rfl ?_
    refine j_getR hK fl_X0_9 dX0_add_11 zo_3 zf_0_0 zr_3_0 ?_
    refine j_aload_n hK dX0_add_14 0 rfl rfl ?_
    refine j_getI hK fl_X0_18 dX0_add_15 zo_3 zf_0_2 ?_
    refine j_iload_n hK dX0_add_18 1 rfl rfl ?_
    obtain ⟨hi1, hf⟩ := gd hf
    refine k_iast hK dX0_add_19 zb_4 hi1 rfl ?_
    refine lt_S hf (fun S2 hf => ?_)
    refine j_aload_n hK dX0_add_20 0 rfl rfl ?_
    refine j_pc (pc' := 21) rfl ?_
    refine j_getR hK fl_X0_15 dX0_add_21 zo_3 zf_0_1 zr_3_1 ?_
    refine j_aload_n hK dX0_add_24 0 rfl rfl ?_
    refine j_getI hK fl_X0_18 dX0_add_25 zo_3 zf_0_2 ?_
    refine j_iload_n hK dX0_add_28 2 rfl rfl ?_
    obtain ⟨hi3, hf⟩ := gd hf
    refine k_iast hK dX0_add_29 zb_5 hi3 rfl ?_
    refine lt_S hf (fun S4 hf => ?_)
    refine j_aload_n hK dX0_add_30 0 rfl rfl ?_
    refine j_getR hK fl_X0_25 dX0_add_31 zo_3 zf_0_3 zr_3_3 ?_
    refine j_getR hK fl_X0_29 dX0_add_34 zo_6 zf_7_0 zr_6_0 ?_
    refine j_pc (pc' := 37) rfl ?_
    refine j_aload_n hK dX0_add_37 0 rfl rfl ?_
    refine j_getI hK fl_X0_18 dX0_add_38 zo_3 zf_0_2 ?_
    refine j_iload_n hK dX0_add_41 3 rfl rfl ?_
    obtain ⟨hi5, hf⟩ := gd hf
    refine k_iast hK dX0_add_42 zb_7 hi5 rfl ?_
    refine lt_S hf (fun S6 hf => ?_)
    refine j_aload_n hK dX0_add_43 0 rfl rfl ?_
    refine j_getR hK fl_X0_25 dX0_add_44 zo_3 zf_0_3 zr_3_3 ?_
    refine j_getR hK fl_X0_32 dX0_add_47 zo_6 zf_7_1 zr_6_1 ?_
    refine j_aload_n hK dX0_add_50 0 rfl rfl ?_
    refine j_pc (pc' := 51) rfl ?_
    refine j_getI hK fl_X0_18 dX0_add_51 zo_3 zf_0_2 ?_
    refine j_iload hK dX0_add_54 4 rfl ?_
    obtain ⟨hi7, hf⟩ := gd hf
    refine k_iast hK dX0_add_56 zb_8 hi7 rfl ?_
    refine lt_S hf (fun S8 hf => ?_)
    refine j_aload_n hK dX0_add_57 0 rfl rfl ?_
    refine j_getR hK fl_X0_25 dX0_add_58 zo_3 zf_0_3 zr_3_3 ?_
    refine j_getR hK fl_X0_35 dX0_add_61 zo_6 zf_7_2 zr_6_2 ?_
    refine j_aload_n hK dX0_add_64 0 rfl rfl ?_
    refine j_getI hK fl_X0_18 dX0_add_65 zo_3 zf_0_2 ?_
    refine j_pc (pc' := 68) rfl ?_
    refine j_iconst hK (0 : Int32) dX0_add_68 ic_0 ?_
    obtain ⟨hi9, hf⟩ := gd hf
    refine k_iast hK dX0_add_69 zb_9 hi9 rfl ?_
    refine lt_S hf (fun S10 hf => ?_)
    refine j_aload_n hK dX0_add_70 0 rfl rfl ?_
    refine j_getR hK fl_X0_25 dX0_add_71 zo_3 zf_0_3 zr_3_3 ?_
    refine j_dup hK dX0_add_74 rfl ?_
    refine j_getI hK fl_X0_38 dX0_add_75 zo_6 zf_7_3 ?_
    refine j_iconst hK (1 : Int32) dX0_add_78 ic_1 ?_
    refine j_aload_n hK dX0_add_79 0 rfl rfl ?_
    refine j_pc (pc' := 80) rfl ?_
    refine j_getI hK fl_X0_18 dX0_add_80 zo_3 zf_0_2 ?_
    refine j_ishl hK dX0_add_83 ?_
    refine j_ior hK dX0_add_84 ?_
    refine j_putI hK fl_X0_38 dX0_add_85 zo_6 zf_7_3 ?_
    refine lt_S hf (fun S11 hf => ?_)
    refine j_aload_n hK dX0_add_88 0 rfl rfl ?_
    refine j_dup hK dX0_add_89 rfl ?_
    refine j_getI hK fl_X0_18 dX0_add_90 zo_3 zf_0_2 ?_
    refine j_iconst hK (1 : Int32) dX0_add_93 ic_1 ?_
    refine j_pc (pc' := 94) rfl ?_
    refine j_iadd hK dX0_add_94 ?_
    refine j_putI hK fl_X0_18 dX0_add_95 zo_3 zf_0_2 ?_
    refine lt_S hf (fun S12 hf => ?_)
    exact j_vret hK dX0_add_98 rfl (rt_V hA hf)
  · replace hf := if_2 hc hf
    exact j_vret hK dX0_add_9 rfl (rt_V hA hf)
def f_X0_has (p1 : Int32) (S : St) : Option (Int32 × St) := (if p1 < 0 then some ((0 : Int32), S) else (if (gI S 3 2) ≤ p1 then some ((0 : Int32), S) else some ((1 : Int32), S)))
theorem c_X0_has {p1 : Int32} {S : St} {r : Int32} {S' : St} (hf : f_X0_has p1 S = some (r, S')) : zM yX0_has cX0_has 2 1 (some .boolean) [.ref 3, .int p1] S (some (.int r)) S' := by
  refine zM_of (zpl (by decide)) (Nat.le_of_ble_eq_true rfl) rfl (fun K hK hA => ?_)
  unfold f_X0_has at hf
  refine j_iload_n hK dX0_has_0 1 rfl rfl ?_
  refine j_if_lt hK 16 dX0_has_1 (by decide) (fun hc => ?_) (fun hc => ?_)
  · replace hf := if_1 hc hf
    refine j_iconst hK (0 : Int32) dX0_has_16 ic_0 ?_
    exact j_zret hK dX0_has_17 rfl rfl (rt_I hA hf)
  · replace hf := if_2 hc hf
    refine j_iload_n hK dX0_has_4 1 rfl rfl ?_
    refine j_aload_n hK dX0_has_5 0 rfl rfl ?_
    refine j_getI hK fl_X0_18 dX0_has_6 zo_3 zf_0_2 ?_
    refine j_icmp_ge hK 16 dX0_has_9 (by decide) (fun hc => ?_) (fun hc => ?_)
    · replace hf := if_1 hc hf
      refine j_iconst hK (0 : Int32) dX0_has_16 ic_0 ?_
      exact j_zret hK dX0_has_17 rfl rfl (rt_I hA hf)
    · replace hf := if_2 hc hf
      refine j_iconst hK (1 : Int32) dX0_has_12 ic_1 ?_
      refine j_goto hK 17 dX0_has_13 (by decide) ?_
      exact j_zret hK dX0_has_17 rfl rfl (rt_I hA hf)
def f_X0_isOpen (p1 : Int32) (S : St) : Option (Int32 × St) := (if (((gI S 6 3) >>> (p1 &&& 31)) &&& (1 : Int32)) = (1 : Int32) then some ((1 : Int32), S) else some ((0 : Int32), S))
theorem c_X0_isOpen {p1 : Int32} {S : St} {r : Int32} {S' : St} (hf : f_X0_isOpen p1 S = some (r, S')) : zM yX0_isOpen cX0_isOpen 2 1 (some .boolean) [.ref 3, .int p1] S (some (.int r)) S' := by
  refine zM_of (zpl (by decide)) (Nat.le_of_ble_eq_true rfl) rfl (fun K hK hA => ?_)
  unfold f_X0_isOpen at hf
  refine j_aload_n hK dX0_isOpen_0 0 rfl rfl ?_
  refine j_getR hK fl_X0_25 dX0_isOpen_1 zo_3 zf_0_3 zr_3_3 ?_
  refine j_getI hK fl_X0_38 dX0_isOpen_4 zo_6 zf_7_3 ?_
  refine j_iload_n hK dX0_isOpen_7 1 rfl rfl ?_
  refine j_ishr hK dX0_isOpen_8 ?_
  refine j_iconst hK (1 : Int32) dX0_isOpen_9 ic_1 ?_
  refine j_iand hK dX0_isOpen_10 ?_
  refine j_iconst hK (1 : Int32) dX0_isOpen_11 ic_1 ?_
  refine j_pc (pc' := 12) rfl ?_
  refine j_icmp_ne hK 19 dX0_isOpen_12 (by decide) (fun hc => ?_) (fun hc => ?_)
  · replace hf := if_2 hc hf
    refine j_iconst hK (0 : Int32) dX0_isOpen_19 ic_0 ?_
    exact j_zret hK dX0_isOpen_20 rfl rfl (rt_I hA hf)
  · replace hf := if_1 hc hf
    refine j_iconst hK (1 : Int32) dX0_isOpen_15 ic_1 ?_
    refine j_goto hK 20 dX0_isOpen_16 (by decide) ?_
    exact j_zret hK dX0_isOpen_20 rfl rfl (rt_I hA hf)
def f_X0_isEnd_20 (S : St) : Option (Int32 × St) := some ((1 : Int32), S)
theorem t_X0_isEnd_20 {K : CT} (hK : KO K cX0_isEnd RX0 3 1 (some .boolean)) {r : Int32} {S' : St} (hA : zans K = (some (.int r), S')) {S : St} (hf : f_X0_isEnd_20  S = some (r, S')) : J K 20 [] [] S := by
  unfold f_X0_isEnd_20 at hf
  refine j_iconst hK (1 : Int32) dX0_isEnd_20 ic_1 ?_
  refine j_goto hK 25 dX0_isEnd_21 (by decide) ?_
  exact j_zret hK dX0_isEnd_25 rfl rfl (rt_I hA hf)
def f_X0_isEnd (p1 : Int32) (p2 : Int32) (S : St) : Option (Int32 × St) := if inb p2 12 then (if (gI S 4 p2.toNatClampNeg) = p1 then f_X0_isEnd_20  S else if inb p2 12 then (if (gI S 5 p2.toNatClampNeg) = p1 then f_X0_isEnd_20  S else some ((0 : Int32), S)) else none) else none
theorem c_X0_isEnd {p1 : Int32} {p2 : Int32} {S : St} {r : Int32} {S' : St} (hf : f_X0_isEnd p1 p2 S = some (r, S')) : zM yX0_isEnd cX0_isEnd 3 1 (some .boolean) [.ref 3, .int p1, .int p2] S (some (.int r)) S' := by
  refine zM_of (zpl (by decide)) (Nat.le_of_ble_eq_true rfl) rfl (fun K hK hA => ?_)
  unfold f_X0_isEnd at hf
  refine j_aload_n hK dX0_isEnd_0 0 rfl rfl ?_
  refine j_getR hK fl_X0_9 dX0_isEnd_1 zo_3 zf_0_0 zr_3_0 ?_
  refine j_iload_n hK dX0_isEnd_4 2 rfl rfl ?_
  obtain ⟨hi1, hf⟩ := gd hf
  refine k_iald hK dX0_isEnd_5 zb_4 hi1 rfl ?_
  refine j_iload_n hK dX0_isEnd_6 1 rfl rfl ?_
  refine j_icmp_eq hK 20 dX0_isEnd_7 (by decide) (fun hc => ?_) (fun hc => ?_)
  · replace hf := if_1 hc hf
    refine j_sub [] rfl ?_
    exact t_X0_isEnd_20 hK hA  hf
  · replace hf := if_2 hc hf
    refine j_aload_n hK dX0_isEnd_10 0 rfl rfl ?_
    refine j_getR hK fl_X0_15 dX0_isEnd_11 zo_3 zf_0_1 zr_3_1 ?_
    refine j_iload_n hK dX0_isEnd_14 2 rfl rfl ?_
    obtain ⟨hi2, hf⟩ := gd hf
    refine k_iald hK dX0_isEnd_15 zb_5 hi2 rfl ?_
    refine j_iload_n hK dX0_isEnd_16 1 rfl rfl ?_
    refine j_icmp_ne hK 24 dX0_isEnd_17 (by decide) (fun hc => ?_) (fun hc => ?_)
    · replace hf := if_2 hc hf
      refine j_iconst hK (0 : Int32) dX0_isEnd_24 ic_0 ?_
      exact j_zret hK dX0_isEnd_25 rfl rfl (rt_I hA hf)
    · replace hf := if_1 hc hf
      refine j_sub [] rfl ?_
      exact t_X0_isEnd_20 hK hA  hf
def f_X0_endingAt_27 (x1 : Int32) (x2 : Int32) (x3 : Int32) (k e : Int32 × Int32 → St → Option (Int32 × St)) (S : St) : Option (Int32 × St) := k (x2, (x3 + (1 : Int32))) S
theorem t_X0_endingAt_27 {K : CT} (hK : KO K cX0_endingAt RX0 4 2 (some .int)) {r : Int32} {S' : St} (hA : zans K = (some (.int r), S')) {x1 : Int32} {x2 : Int32} {x3 : Int32} {k e : Int32 × Int32 → St → Option (Int32 × St)} (hk : ∀ (v : Int32 × Int32) (S : St), k v S = some (r, S') → J K 4 [(0, .ref 3), (1, .int x1), (2, .int v.1), (3, .int v.2)] [] S) (he : ∀ (v : Int32 × Int32) (S : St), e v S = some (r, S') → J K 33 [(2, .int v.1)] [] S) {S : St} (hf : f_X0_endingAt_27 x1 x2 x3 k e S = some (r, S')) : J K 27 [(0, .ref 3), (1, .int x1), (2, .int x2), (3, .int x3)] [] S := by
  unfold f_X0_endingAt_27 at hf
  refine j_iinc hK (L' := [(3, .int (x3 + (1 : Int32))), (0, .ref 3), (1, .int x1), (2, .int x2)]) dX0_endingAt_27 3 rfl (congrArg (fun y => x3 + y) ic_1) (by decide) rfl ?_
  refine j_goto hK 4 dX0_endingAt_30 (by decide) ?_
  refine j_sub [1, 2, 3, 0] rfl ?_
  exact hk _ _ hf
def f_X0_endingAt_4b (x1 : Int32) (e : Int32 × Int32 → St → Option (Int32 × St)) (k : Int32 × Int32 → St → Option (Int32 × St)) (v : Int32 × Int32) (S : St) : Option (Int32 × St) := (if (gI S 3 2) ≤ v.2 then e (v.1, v.2) S else bd (f_X0_isEnd x1 v.2 S) (fun r1 S2 => (if r1 = 0 then f_X0_endingAt_27 x1 v.1 v.2 k e S2 else lt (v.1 ||| ((1 : Int32) <<< (v.2 &&& 31))) (fun y4 => f_X0_endingAt_27 x1 y4 v.2 k e S2))))
theorem t_X0_endingAt_4 {K : CT} (hK : KO K cX0_endingAt RX0 4 2 (some .int)) {r : Int32} {S' : St} (hA : zans K = (some (.int r), S')) {x1 : Int32} {e : Int32 × Int32 → St → Option (Int32 × St)} (he : ∀ (v : Int32 × Int32) (S : St), e v S = some (r, S') → J K 33 [(2, .int v.1)] [] S) : ∀ (n : Nat) (v : Int32 × Int32) (S : St), lp (f_X0_endingAt_4b x1 e) n v S = some (r, S') → J K 4 [(0, .ref 3), (1, .int x1), (2, .int v.1), (3, .int v.2)] [] S :=
  lp_J (P := fun (v : Int32 × Int32) (S : St) => J K 4 [(0, .ref 3), (1, .int x1), (2, .int v.1), (3, .int v.2)] [] S) (fun k hk v S hf => by
    unfold f_X0_endingAt_4b at hf
    refine j_iload_n hK dX0_endingAt_4 3 rfl rfl ?_
    refine j_aload_n hK dX0_endingAt_5 0 rfl rfl ?_
    refine j_getI hK fl_X0_18 dX0_endingAt_6 zo_3 zf_0_2 ?_
    refine j_icmp_ge hK 33 dX0_endingAt_9 (by decide) (fun hc => ?_) (fun hc => ?_)
    · replace hf := if_1 hc hf
      refine j_sub [2] rfl ?_
      exact he _ _ hf
    · replace hf := if_2 hc hf
      refine j_aload_n hK dX0_endingAt_12 0 rfl rfl ?_
      refine j_iload_n hK dX0_endingAt_13 1 rfl rfl ?_
      refine j_iload_n hK dX0_endingAt_14 3 rfl rfl ?_
      obtain ⟨r1, S2, h3, hf⟩ := bd_J hf
      refine k_callVi hK (c_X0_isEnd h3) dX0_endingAt_15 zclX0 zo_3 ml_X0_41 mi_X0_isEnd mx_X0_isEnd in_X0 mc_X0_isEnd hy_X0_isEnd ⟨by decide, by decide⟩ rfl (Nat.le_of_ble_eq_true rfl) ?_
      refine j_if_eq hK 27 dX0_endingAt_18 (by decide) (fun hc => ?_) (fun hc => ?_)
      · replace hf := if_1 hc hf
        exact t_X0_endingAt_27 hK hA hk he hf
      · replace hf := if_2 hc hf
        refine j_iload_n hK dX0_endingAt_21 2 rfl rfl ?_
        refine j_iconst hK (1 : Int32) dX0_endingAt_22 ic_1 ?_
        refine j_iload_n hK dX0_endingAt_23 3 rfl rfl ?_
        refine j_ishl hK dX0_endingAt_24 ?_
        refine j_ior hK dX0_endingAt_25 ?_
        refine lt_I hf (fun y4 hf => ?_)
        refine j_istore_n hK (L' := [(2, .int y4), (0, .ref 3), (1, .int x1), (3, .int v.2)]) dX0_endingAt_26 rfl (by decide) rfl ?_
        refine j_sub [1, 2, 0, 3] rfl ?_
        exact t_X0_endingAt_27 hK hA hk he hf)
def f_X0_endingAt (p1 : Int32) (S : St) : Option (Int32 × St) := lp (f_X0_endingAt_4b p1 (fun v5 S6 => some (v5.1, S6))) FU ((0 : Int32), (0 : Int32)) S
theorem c_X0_endingAt {p1 : Int32} {S : St} {r : Int32} {S' : St} (hf : f_X0_endingAt p1 S = some (r, S')) : zM yX0_endingAt cX0_endingAt 4 2 (some .int) [.ref 3, .int p1] S (some (.int r)) S' := by
  refine zM_of (zpl (by decide)) (Nat.le_of_ble_eq_true rfl) rfl (fun K hK hA => ?_)
  unfold f_X0_endingAt at hf
  refine j_iconst hK (0 : Int32) dX0_endingAt_0 ic_0 ?_
  refine j_istore_n hK (L' := [(2, .int (0 : Int32)), (0, .ref 3), (1, .int p1)]) dX0_endingAt_1 rfl (by decide) rfl ?_
  refine j_iconst hK (0 : Int32) dX0_endingAt_2 ic_0 ?_
  refine j_istore_n hK (L' := [(3, .int (0 : Int32)), (2, .int (0 : Int32)), (0, .ref 3), (1, .int p1)]) dX0_endingAt_3 rfl (by decide) rfl ?_
  refine j_sub [2, 3, 1, 0] rfl ?_
  refine t_X0_endingAt_4 hK hA  (fun v5 S6 hf => ?_) _ _ _ hf
  refine j_iload_n hK dX0_endingAt_33 0 rfl rfl ?_
  exact j_iret hK dX0_endingAt_34 rfl (rt_I hA hf)
def f_X0_openOf (p1 : Int32) (S : St) : Option (Int32 × St) := bd (f_X0_endingAt p1 S) (fun r1 S2 => some ((r1 &&& (gI S2 6 3)), S2))
theorem c_X0_openOf {p1 : Int32} {S : St} {r : Int32} {S' : St} (hf : f_X0_openOf p1 S = some (r, S')) : zM yX0_openOf cX0_openOf 2 3 (some .int) [.ref 3, .int p1] S (some (.int r)) S' := by
  refine zM_of (zpl (by decide)) (Nat.le_of_ble_eq_true rfl) rfl (fun K hK hA => ?_)
  unfold f_X0_openOf at hf
  refine j_aload_n hK dX0_openOf_0 0 rfl rfl ?_
  refine j_iload_n hK dX0_openOf_1 1 rfl rfl ?_
  obtain ⟨r1, S2, h3, hf⟩ := bd_J hf
  refine k_callVi hK (c_X0_endingAt h3) dX0_openOf_2 zclX0 zo_3 ml_X0_45 mi_X0_endingAt mx_X0_endingAt in_X0 mc_X0_endingAt hy_X0_endingAt ⟨by decide, by decide⟩ rfl (Nat.le_of_ble_eq_true rfl) ?_
  refine j_aload_n hK dX0_openOf_5 0 rfl rfl ?_
  refine j_getR hK fl_X0_25 dX0_openOf_6 zo_3 zf_0_3 zr_3_3 ?_
  refine j_getI hK fl_X0_38 dX0_openOf_9 zo_6 zf_7_3 ?_
  refine j_iand hK dX0_openOf_12 ?_
  exact j_iret hK dX0_openOf_13 rfl (rt_I hA hf)
def f_X0_wearOfAll_4b (e : Int32 × Int32 → St → Option (Int32 × St)) (k : Int32 × Int32 → St → Option (Int32 × St)) (v : Int32 × Int32) (S : St) : Option (Int32 × St) := (if (gI S 3 2) ≤ v.2 then e (v.1, v.2) S else if inb v.2 12 then lt (v.1 + (gI S 9 v.2.toNatClampNeg)) (fun y2 => k (y2, (v.2 + (1 : Int32))) S) else none)
theorem t_X0_wearOfAll_4 {K : CT} (hK : KO K cX0_wearOfAll RX0 3 1 (some .int)) {r : Int32} {S' : St} (hA : zans K = (some (.int r), S')) {e : Int32 × Int32 → St → Option (Int32 × St)} (he : ∀ (v : Int32 × Int32) (S : St), e v S = some (r, S') → J K 30 [(1, .int v.1)] [] S) : ∀ (n : Nat) (v : Int32 × Int32) (S : St), lp (f_X0_wearOfAll_4b  e) n v S = some (r, S') → J K 4 [(0, .ref 3), (1, .int v.1), (2, .int v.2)] [] S :=
  lp_J (P := fun (v : Int32 × Int32) (S : St) => J K 4 [(0, .ref 3), (1, .int v.1), (2, .int v.2)] [] S) (fun k hk v S hf => by
    unfold f_X0_wearOfAll_4b at hf
    refine j_iload_n hK dX0_wearOfAll_4 2 rfl rfl ?_
    refine j_aload_n hK dX0_wearOfAll_5 0 rfl rfl ?_
    refine j_getI hK fl_X0_18 dX0_wearOfAll_6 zo_3 zf_0_2 ?_
    refine j_icmp_ge hK 30 dX0_wearOfAll_9 (by decide) (fun hc => ?_) (fun hc => ?_)
    · replace hf := if_1 hc hf
      refine j_sub [1] rfl ?_
      exact he _ _ hf
    · replace hf := if_2 hc hf
      refine j_iload_n hK dX0_wearOfAll_12 1 rfl rfl ?_
      refine j_aload_n hK dX0_wearOfAll_13 0 rfl rfl ?_
      refine j_getR hK fl_X0_25 dX0_wearOfAll_14 zo_3 zf_0_3 zr_3_3 ?_
      refine j_getR hK fl_X0_35 dX0_wearOfAll_17 zo_6 zf_7_2 zr_6_2 ?_
      refine j_iload_n hK dX0_wearOfAll_20 2 rfl rfl ?_
      obtain ⟨hi1, hf⟩ := gd hf
      refine k_iald hK dX0_wearOfAll_21 zb_9 hi1 rfl ?_
      refine j_iadd hK dX0_wearOfAll_22 ?_
      refine j_pc (pc' := 23) rfl ?_
      refine lt_I hf (fun y2 hf => ?_)
      refine j_istore_n hK (L' := [(1, .int y2), (0, .ref 3), (2, .int v.2)]) dX0_wearOfAll_23 rfl (by decide) rfl ?_
      refine j_iinc hK (L' := [(2, .int (v.2 + (1 : Int32))), (1, .int y2), (0, .ref 3)]) dX0_wearOfAll_24 2 rfl (congrArg (fun y => v.2 + y) ic_1) (by decide) rfl ?_
      refine j_goto hK 4 dX0_wearOfAll_27 (by decide) ?_
      refine j_sub [2, 1, 0] rfl ?_
      exact hk _ _ hf)
def f_X0_wearOfAll (S : St) : Option (Int32 × St) := lp (f_X0_wearOfAll_4b  (fun v3 S4 => some (v3.1, S4))) FU ((0 : Int32), (0 : Int32)) S
theorem c_X0_wearOfAll {S : St} {r : Int32} {S' : St} (hf : f_X0_wearOfAll S = some (r, S')) : zM yX0_wearOfAll cX0_wearOfAll 3 1 (some .int) [.ref 3] S (some (.int r)) S' := by
  refine zM_of (zpl (by decide)) (Nat.le_of_ble_eq_true rfl) rfl (fun K hK hA => ?_)
  unfold f_X0_wearOfAll at hf
  refine j_iconst hK (0 : Int32) dX0_wearOfAll_0 ic_0 ?_
  refine j_istore_n hK (L' := [(1, .int (0 : Int32)), (0, .ref 3)]) dX0_wearOfAll_1 rfl (by decide) rfl ?_
  refine j_iconst hK (0 : Int32) dX0_wearOfAll_2 ic_0 ?_
  refine j_istore_n hK (L' := [(2, .int (0 : Int32)), (1, .int (0 : Int32)), (0, .ref 3)]) dX0_wearOfAll_3 rfl (by decide) rfl ?_
  refine j_sub [2, 1, 0] rfl ?_
  refine t_X0_wearOfAll_4 hK hA  (fun v3 S4 hf => ?_) _ _ _ hf
  refine j_iload_n hK dX0_wearOfAll_30 0 rfl rfl ?_
  exact j_iret hK dX0_wearOfAll_31 rfl (rt_I hA hf)
def f_X0_acrossFrom (p1 : Int32) (p2 : Int32) (S : St) : Option (Int32 × St) := if inb p2 12 then (if (gI S 4 p2.toNatClampNeg) = p1 then if inb p2 12 then some ((gI S 5 p2.toNatClampNeg), S) else none else if inb p2 12 then some ((gI S 4 p2.toNatClampNeg), S) else none) else none
theorem c_X0_acrossFrom {p1 : Int32} {p2 : Int32} {S : St} {r : Int32} {S' : St} (hf : f_X0_acrossFrom p1 p2 S = some (r, S')) : zM yX0_acrossFrom cX0_acrossFrom 3 1 (some .int) [.ref 3, .int p1, .int p2] S (some (.int r)) S' := by
  refine zM_of (zpl (by decide)) (Nat.le_of_ble_eq_true rfl) rfl (fun K hK hA => ?_)
  unfold f_X0_acrossFrom at hf
  refine j_aload_n hK dX0_acrossFrom_0 0 rfl rfl ?_
  refine j_getR hK fl_X0_9 dX0_acrossFrom_1 zo_3 zf_0_0 zr_3_0 ?_
  refine j_iload_n hK dX0_acrossFrom_4 2 rfl rfl ?_
  obtain ⟨hi1, hf⟩ := gd hf
  refine k_iald hK dX0_acrossFrom_5 zb_4 hi1 rfl ?_
  refine j_iload_n hK dX0_acrossFrom_6 1 rfl rfl ?_
  refine j_icmp_ne hK 19 dX0_acrossFrom_7 (by decide) (fun hc => ?_) (fun hc => ?_)
  · replace hf := if_2 hc hf
    refine j_aload_n hK dX0_acrossFrom_19 0 rfl rfl ?_
    refine j_getR hK fl_X0_9 dX0_acrossFrom_20 zo_3 zf_0_0 zr_3_0 ?_
    refine j_iload_n hK dX0_acrossFrom_23 2 rfl rfl ?_
    obtain ⟨hi2, hf⟩ := gd hf
    refine k_iald hK dX0_acrossFrom_24 zb_4 hi2 rfl ?_
    exact j_iret hK dX0_acrossFrom_25 rfl (rt_I hA hf)
  · replace hf := if_1 hc hf
    refine j_aload_n hK dX0_acrossFrom_10 0 rfl rfl ?_
    refine j_getR hK fl_X0_15 dX0_acrossFrom_11 zo_3 zf_0_1 zr_3_1 ?_
    refine j_iload_n hK dX0_acrossFrom_14 2 rfl rfl ?_
    obtain ⟨hi3, hf⟩ := gd hf
    refine k_iald hK dX0_acrossFrom_15 zb_5 hi3 rfl ?_
    refine j_goto hK 25 dX0_acrossFrom_16 (by decide) ?_
    exact j_iret hK dX0_acrossFrom_25 rfl (rt_I hA hf)
def f_X7_take (o : Nat) (o2 : Nat) (S : St) : Option (Unit × St) := lt (sC S (o2 + 1) 0 (o + 1) 0 12) (fun S1 => lt (sC S1 (o2 + 2) 0 (o + 2) 0 12) (fun S2 => lt (sC S2 (o2 + 3) 0 (o + 3) 0 12) (fun S3 => lt (sI S3 o 3 (gI S3 o2 3)) (fun S4 => lt (sI S4 o 4 (gI S4 o2 4)) (fun S5 => lt (sI S5 o 5 (gI S5 o2 5)) (fun S6 => some ((), S6)))))))
theorem c_X7_take {o : Nat} {o2 : Nat} (ho : isState o) (ho2 : isState o2) {S : St} {r : Unit} {S' : St} (hf : f_X7_take o o2 S = some (r, S')) : zM yX7_take cX7_take 2 1 none [.ref o, .ref o2] S (none) S' := by
  refine zM_of (zpl (by decide)) (Nat.le_of_ble_eq_true rfl) rfl (fun K hK hA => ?_)
  unfold f_X7_take at hf
  refine j_aload_n hK dX7_take_0 1 rfl rfl ?_
  refine j_getR hK fl_X7_9 dX7_take_1 ho2 zf_7_0 (st_r0 ho2) ?_
  refine j_iconst hK (0 : Int32) dX7_take_4 ic_0 ?_
  refine j_aload_n hK dX7_take_5 0 rfl rfl ?_
  refine j_getR hK fl_X7_9 dX7_take_6 ho zf_7_0 (st_r0 ho) ?_
  refine j_iconst hK (0 : Int32) dX7_take_9 ic_0 ?_
  refine j_bipush hK (12 : Int32) dX7_take_10 bi_12 ?_
  refine k_copyI hK ml_X7_31 dX7_take_12 (st_b1 ho2) (st_b1 ho) (by decide) (by decide) (by decide) (by decide) (by decide) tn_0 tn_0 tn_12 (by decide) (Nat.le_of_ble_eq_true rfl) ?_
  refine lt_S hf (fun S1 hf => ?_)
  refine j_pc (pc' := 15) rfl ?_
  refine j_aload_n hK dX7_take_15 1 rfl rfl ?_
  refine j_getR hK fl_X7_15 dX7_take_16 ho2 zf_7_1 (st_r1 ho2) ?_
  refine j_iconst hK (0 : Int32) dX7_take_19 ic_0 ?_
  refine j_aload_n hK dX7_take_20 0 rfl rfl ?_
  refine j_getR hK fl_X7_15 dX7_take_21 ho zf_7_1 (st_r1 ho) ?_
  refine j_iconst hK (0 : Int32) dX7_take_24 ic_0 ?_
  refine j_bipush hK (12 : Int32) dX7_take_25 bi_12 ?_
  refine k_copyI hK ml_X7_31 dX7_take_27 (st_b2 ho2) (st_b2 ho) (by decide) (by decide) (by decide) (by decide) (by decide) tn_0 tn_0 tn_12 (by decide) (Nat.le_of_ble_eq_true rfl) ?_
  refine lt_S hf (fun S2 hf => ?_)
  refine j_pc (pc' := 30) rfl ?_
  refine j_aload_n hK dX7_take_30 1 rfl rfl ?_
  refine j_getR hK fl_X7_18 dX7_take_31 ho2 zf_7_2 (st_r2 ho2) ?_
  refine j_iconst hK (0 : Int32) dX7_take_34 ic_0 ?_
  refine j_aload_n hK dX7_take_35 0 rfl rfl ?_
  refine j_getR hK fl_X7_18 dX7_take_36 ho zf_7_2 (st_r2 ho) ?_
  refine j_iconst hK (0 : Int32) dX7_take_39 ic_0 ?_
  refine j_bipush hK (12 : Int32) dX7_take_40 bi_12 ?_
  refine k_copyI hK ml_X7_31 dX7_take_42 (st_b3 ho2) (st_b3 ho) (by decide) (by decide) (by decide) (by decide) (by decide) tn_0 tn_0 tn_12 (by decide) (Nat.le_of_ble_eq_true rfl) ?_
  refine lt_S hf (fun S3 hf => ?_)
  refine j_pc (pc' := 45) rfl ?_
  refine j_aload_n hK dX7_take_45 0 rfl rfl ?_
  refine j_aload_n hK dX7_take_46 1 rfl rfl ?_
  refine j_getI hK fl_X7_21 dX7_take_47 ho2 zf_7_3 ?_
  refine j_putI hK fl_X7_21 dX7_take_50 ho zf_7_3 ?_
  refine lt_S hf (fun S4 hf => ?_)
  refine j_aload_n hK dX7_take_53 0 rfl rfl ?_
  refine j_aload_n hK dX7_take_54 1 rfl rfl ?_
  refine j_getI hK fl_X7_25 dX7_take_55 ho2 zf_7_4 ?_
  refine j_putI hK fl_X7_25 dX7_take_58 ho zf_7_4 ?_
  refine lt_S hf (fun S5 hf => ?_)
  refine j_pc (pc' := 61) rfl ?_
  refine j_aload_n hK dX7_take_61 0 rfl rfl ?_
  refine j_aload_n hK dX7_take_62 1 rfl rfl ?_
  refine j_getI hK fl_X7_28 dX7_take_63 ho2 zf_7_5 ?_
  refine j_putI hK fl_X7_28 dX7_take_66 ho zf_7_5 ?_
  refine lt_S hf (fun S6 hf => ?_)
  exact j_vret hK dX7_take_69 rfl (rt_V hA hf)
def f_X0_wearOut_2b (e : Int32 → St → Option (Unit × St)) (k : Int32 → St → Option (Unit × St)) (v : Int32) (S : St) : Option (Unit × St) := (if (gI S 92 3) ≤ v then e v S else if inb v 12 then lt (gI S 93 v.toNatClampNeg) (fun y2 => if inb y2 12 then if inb y2 12 then lt (sI S 9 y2.toNatClampNeg (mnI (9 : Int32) ((gI S 9 y2.toNatClampNeg) + (1 : Int32)))) (fun S5 => k (v + (1 : Int32)) S5) else none else none) else none)
theorem t_X0_wearOut_2 {K : CT} (hK : KO K cX0_wearOut RX0 4 1 none) {r : Unit} {S' : St} (hA : zans K = (none, S')) {e : Int32 → St → Option (Unit × St)} (he : ∀ (v : Int32) (S : St), e v S = some (r, S') → J K 48 [(0, .ref 3)] [] S) : ∀ (n : Nat) (v : Int32) (S : St), lp (f_X0_wearOut_2b  e) n v S = some (r, S') → J K 2 [(0, .ref 3), (1, .ref 92), (2, .int v)] [] S :=
  lp_J (P := fun (v : Int32) (S : St) => J K 2 [(0, .ref 3), (1, .ref 92), (2, .int v)] [] S) (fun k hk v S hf => by
    unfold f_X0_wearOut_2b at hf
    refine j_iload_n hK dX0_wearOut_2 2 rfl rfl ?_
    refine j_aload_n hK dX0_wearOut_3 1 rfl rfl ?_
    refine j_getI hK fl_X0_65 dX0_wearOut_4 zo_92 zf_2_3 ?_
    refine j_icmp_ge hK 48 dX0_wearOut_7 (by decide) (fun hc => ?_) (fun hc => ?_)
    · replace hf := if_1 hc hf
      refine j_sub [0] rfl ?_
      exact he _ _ hf
    · replace hf := if_2 hc hf
      refine j_aload_n hK dX0_wearOut_10 1 rfl rfl ?_
      refine j_getR hK fl_X0_70 dX0_wearOut_11 zo_92 zf_2_1 zr_92_1 ?_
      refine j_iload_n hK dX0_wearOut_14 2 rfl rfl ?_
      obtain ⟨hi1, hf⟩ := gd hf
      refine k_iald hK dX0_wearOut_15 zb_93 hi1 rfl ?_
      refine lt_I hf (fun y2 hf => ?_)
      refine j_istore_n hK (L' := [(3, .int y2), (0, .ref 3), (1, .ref 92), (2, .int v)]) dX0_wearOut_16 rfl (by decide) rfl ?_
      refine j_aload_n hK dX0_wearOut_17 1 rfl rfl ?_
      refine j_getR hK fl_X0_25 dX0_wearOut_18 zo_3 zf_0_3 zr_3_3 ?_
      refine j_pc (pc' := 21) rfl ?_
      refine j_getR hK fl_X0_35 dX0_wearOut_21 zo_6 zf_7_2 zr_6_2 ?_
      refine j_iload_n hK dX0_wearOut_24 0 rfl rfl ?_
      refine j_bipush hK (9 : Int32) dX0_wearOut_25 bi_9 ?_
      refine j_aload_n hK dX0_wearOut_27 1 rfl rfl ?_
      refine j_getR hK fl_X0_25 dX0_wearOut_28 zo_3 zf_0_3 zr_3_3 ?_
      refine j_getR hK fl_X0_35 dX0_wearOut_31 zo_6 zf_7_2 zr_6_2 ?_
      refine j_iload_n hK dX0_wearOut_34 0 rfl rfl ?_
      obtain ⟨hi3, hf⟩ := gd hf
      refine k_iald hK dX0_wearOut_35 zb_9 hi3 rfl ?_
      refine j_pc (pc' := 36) rfl ?_
      refine j_iconst hK (1 : Int32) dX0_wearOut_36 ic_1 ?_
      refine j_iadd hK dX0_wearOut_37 ?_
      refine j_min hK ml_X0_73 dX0_wearOut_38 (by decide) (Nat.le_of_ble_eq_true rfl) ?_
      obtain ⟨hi4, hf⟩ := gd hf
      refine k_iast hK dX0_wearOut_41 zb_9 hi4 rfl ?_
      refine lt_S hf (fun S5 hf => ?_)
      refine j_iinc hK (L' := [(2, .int (v + (1 : Int32))), (3, .int y2), (0, .ref 3), (1, .ref 92)]) dX0_wearOut_42 3 rfl (congrArg (fun y => v + y) ic_1) (by decide) rfl ?_
      refine j_goto hK 2 dX0_wearOut_45 (by decide) ?_
      refine j_sub [2, 3, 0] rfl ?_
      exact hk _ _ hf)
def f_X0_wearOut (S : St) : Option (Unit × St) := lp (f_X0_wearOut_2b  (fun v6 S7 => lt (sI S7 6 5 (mnI (999 : Int32) ((gI S7 6 5) + (1 : Int32)))) (fun S8 => some ((), S8)))) FU (0 : Int32) S
theorem c_X0_wearOut {S : St} {r : Unit} {S' : St} (hf : f_X0_wearOut S = some (r, S')) : zM yX0_wearOut cX0_wearOut 4 1 none [.ref 3, .ref 92] S (none) S' := by
  refine zM_of (zpl (by decide)) (Nat.le_of_ble_eq_true rfl) rfl (fun K hK hA => ?_)
  unfold f_X0_wearOut at hf
  refine j_iconst hK (0 : Int32) dX0_wearOut_0 ic_0 ?_
  refine j_istore_n hK (L' := [(2, .int (0 : Int32)), (0, .ref 3), (1, .ref 92)]) dX0_wearOut_1 rfl (by decide) rfl ?_
  refine j_sub [1, 2, 0] rfl ?_
  refine t_X0_wearOut_2 hK hA  (fun v6 S7 hf => ?_) _ _ _ hf
  refine j_aload_n hK dX0_wearOut_48 0 rfl rfl ?_
  refine j_getR hK fl_X0_25 dX0_wearOut_49 zo_3 zf_0_3 zr_3_3 ?_
  refine j_sipush hK (999 : Int32) dX0_wearOut_52 si_999 ?_
  refine j_aload_n hK dX0_wearOut_55 0 rfl rfl ?_
  refine j_getR hK fl_X0_25 dX0_wearOut_56 zo_3 zf_0_3 zr_3_3 ?_
  refine j_getI hK fl_X0_76 dX0_wearOut_59 zo_6 zf_7_5 ?_
  refine j_iconst hK (1 : Int32) dX0_wearOut_62 ic_1 ?_
  refine j_pc (pc' := 63) rfl ?_
  refine j_iadd hK dX0_wearOut_63 ?_
  refine j_min hK ml_X0_73 dX0_wearOut_64 (by decide) (Nat.le_of_ble_eq_true rfl) ?_
  refine j_putI hK fl_X0_76 dX0_wearOut_67 zo_6 zf_7_5 ?_
  refine lt_S hf (fun S8 hf => ?_)
  exact j_vret hK dX0_wearOut_70 rfl (rt_V hA hf)
def f_X0_heal_2b (x1 : Int32) (e : Int32 → St → Option (Unit × St)) (k : Int32 → St → Option (Unit × St)) (v : Int32) (S : St) : Option (Unit × St) := (if (gI S 3 2) ≤ v then e v S else if inb v 12 then if inb v 12 then lt (sI S 9 v.toNatClampNeg (mxI (0 : Int32) ((gI S 9 v.toNatClampNeg) - x1))) (fun S3 => k (v + (1 : Int32)) S3) else none else none)
theorem t_X0_heal_2 {K : CT} (hK : KO K cX0_heal RX0 3 1 none) {r : Unit} {S' : St} (hA : zans K = (none, S')) {x1 : Int32} {e : Int32 → St → Option (Unit × St)} (he : ∀ (v : Int32) (S : St), e v S = some (r, S') → J K 40 [(0, .ref 3), (1, .int x1)] [] S) : ∀ (n : Nat) (v : Int32) (S : St), lp (f_X0_heal_2b x1 e) n v S = some (r, S') → J K 2 [(0, .ref 3), (1, .int x1), (2, .int v)] [] S :=
  lp_J (P := fun (v : Int32) (S : St) => J K 2 [(0, .ref 3), (1, .int x1), (2, .int v)] [] S) (fun k hk v S hf => by
    unfold f_X0_heal_2b at hf
    refine j_iload_n hK dX0_heal_2 2 rfl rfl ?_
    refine j_aload_n hK dX0_heal_3 0 rfl rfl ?_
    refine j_getI hK fl_X0_18 dX0_heal_4 zo_3 zf_0_2 ?_
    refine j_icmp_ge hK 40 dX0_heal_7 (by decide) (fun hc => ?_) (fun hc => ?_)
    · replace hf := if_1 hc hf
      refine j_sub [0, 1] rfl ?_
      exact he _ _ hf
    · replace hf := if_2 hc hf
      refine j_aload_n hK dX0_heal_10 0 rfl rfl ?_
      refine j_getR hK fl_X0_25 dX0_heal_11 zo_3 zf_0_3 zr_3_3 ?_
      refine j_getR hK fl_X0_35 dX0_heal_14 zo_6 zf_7_2 zr_6_2 ?_
      refine j_iload_n hK dX0_heal_17 2 rfl rfl ?_
      refine j_iconst hK (0 : Int32) dX0_heal_18 ic_0 ?_
      refine j_aload_n hK dX0_heal_19 0 rfl rfl ?_
      refine j_getR hK fl_X0_25 dX0_heal_20 zo_3 zf_0_3 zr_3_3 ?_
      refine j_pc (pc' := 23) rfl ?_
      refine j_getR hK fl_X0_35 dX0_heal_23 zo_6 zf_7_2 zr_6_2 ?_
      refine j_iload_n hK dX0_heal_26 2 rfl rfl ?_
      obtain ⟨hi1, hf⟩ := gd hf
      refine k_iald hK dX0_heal_27 zb_9 hi1 rfl ?_
      refine j_iload_n hK dX0_heal_28 1 rfl rfl ?_
      refine j_isub hK dX0_heal_29 ?_
      refine j_max hK ml_X0_56 dX0_heal_30 (by decide) (Nat.le_of_ble_eq_true rfl) ?_
      obtain ⟨hi2, hf⟩ := gd hf
      refine k_iast hK dX0_heal_33 zb_9 hi2 rfl ?_
      refine lt_S hf (fun S3 hf => ?_)
      refine j_iinc hK (L' := [(2, .int (v + (1 : Int32))), (0, .ref 3), (1, .int x1)]) dX0_heal_34 2 rfl (congrArg (fun y => v + y) ic_1) (by decide) rfl ?_
      refine j_pc (pc' := 37) rfl ?_
      refine j_goto hK 2 dX0_heal_37 (by decide) ?_
      refine j_sub [1, 2, 0] rfl ?_
      exact hk _ _ hf)
def f_X0_heal (p1 : Int32) (S : St) : Option (Unit × St) := lp (f_X0_heal_2b p1 (fun v4 S5 => lt (sI S5 6 4 ((gI S5 6 4) + p1)) (fun S6 => some ((), S6)))) FU (0 : Int32) S
theorem c_X0_heal {p1 : Int32} {S : St} {r : Unit} {S' : St} (hf : f_X0_heal p1 S = some (r, S')) : zM yX0_heal cX0_heal 3 1 none [.ref 3, .int p1] S (none) S' := by
  refine zM_of (zpl (by decide)) (Nat.le_of_ble_eq_true rfl) rfl (fun K hK hA => ?_)
  unfold f_X0_heal at hf
  refine j_iconst hK (0 : Int32) dX0_heal_0 ic_0 ?_
  refine j_istore_n hK (L' := [(2, .int (0 : Int32)), (0, .ref 3), (1, .int p1)]) dX0_heal_1 rfl (by decide) rfl ?_
  refine j_sub [1, 2, 0] rfl ?_
  refine t_X0_heal_2 hK hA  (fun v4 S5 hf => ?_) _ _ _ hf
  refine j_aload_n hK dX0_heal_40 0 rfl rfl ?_
  refine j_getR hK fl_X0_25 dX0_heal_41 zo_3 zf_0_3 zr_3_3 ?_
  refine j_dup hK dX0_heal_44 rfl ?_
  refine j_getI hK fl_X0_62 dX0_heal_45 zo_6 zf_7_4 ?_
  refine j_iload_n hK dX0_heal_48 1 rfl rfl ?_
  refine j_iadd hK dX0_heal_49 ?_
  refine j_putI hK fl_X0_62 dX0_heal_50 zo_6 zf_7_4 ?_
  refine lt_S hf (fun S6 hf => ?_)
  refine j_pc (pc' := 53) rfl ?_
  exact j_vret hK dX0_heal_53 rfl (rt_V hA hf)
def f_X0_endsOf (p1 : Int32) (S : St) : Option (Int32 × St) := if inb p1 12 then if inb p1 12 then lt (((1 : Int32) <<< ((gI S 4 p1.toNatClampNeg) &&& 31)) ||| ((1 : Int32) <<< ((gI S 5 p1.toNatClampNeg) &&& 31))) (fun y3 => some (y3, S)) else none else none
theorem c_X0_endsOf {p1 : Int32} {S : St} {r : Int32} {S' : St} (hf : f_X0_endsOf p1 S = some (r, S')) : zM yX0_endsOf cX0_endsOf 2 1 (some .int) [.ref 3, .int p1] S (some (.int r)) S' := by
  refine zM_of (zpl (by decide)) (Nat.le_of_ble_eq_true rfl) rfl (fun K hK hA => ?_)
  unfold f_X0_endsOf at hf
  refine j_iconst hK (1 : Int32) dX0_endsOf_0 ic_1 ?_
  refine j_aload_n hK dX0_endsOf_1 0 rfl rfl ?_
  refine j_getR hK fl_X0_9 dX0_endsOf_2 zo_3 zf_0_0 zr_3_0 ?_
  refine j_iload_n hK dX0_endsOf_5 1 rfl rfl ?_
  obtain ⟨hi1, hf⟩ := gd hf
  refine k_iald hK dX0_endsOf_6 zb_4 hi1 rfl ?_
  refine j_ishl hK dX0_endsOf_7 ?_
  refine j_iconst hK (1 : Int32) dX0_endsOf_8 ic_1 ?_
  refine j_aload_n hK dX0_endsOf_9 0 rfl rfl ?_
  refine j_pc (pc' := 10) rfl ?_
  refine j_getR hK fl_X0_15 dX0_endsOf_10 zo_3 zf_0_1 zr_3_1 ?_
  refine j_iload_n hK dX0_endsOf_13 1 rfl rfl ?_
  obtain ⟨hi2, hf⟩ := gd hf
  refine k_iald hK dX0_endsOf_14 zb_5 hi2 rfl ?_
  refine j_ishl hK dX0_endsOf_15 ?_
  refine j_ior hK dX0_endsOf_16 ?_
  refine lt_I hf (fun y3 hf => ?_)
  exact j_iret hK dX0_endsOf_17 rfl (rt_I hA hf)
def f_X0_enteredCaverns_28 (x1 : Int32) (x2 : Int32) (k e : Int32 × Int32 → St → Option (Int32 × St)) (S : St) : Option (Int32 × St) := k (x1, (x2 + (1 : Int32))) S
theorem t_X0_enteredCaverns_28 {K : CT} (hK : KO K cX0_enteredCaverns RX0 3 2 (some .int)) {r : Int32} {S' : St} (hA : zans K = (some (.int r), S')) {x1 : Int32} {x2 : Int32} {k e : Int32 × Int32 → St → Option (Int32 × St)} (hk : ∀ (v : Int32 × Int32) (S : St), k v S = some (r, S') → J K 4 [(0, .ref 3), (1, .int v.1), (2, .int v.2)] [] S) (he : ∀ (v : Int32 × Int32) (S : St), e v S = some (r, S') → J K 34 [(1, .int v.1)] [] S) {S : St} (hf : f_X0_enteredCaverns_28 x1 x2 k e S = some (r, S')) : J K 28 [(0, .ref 3), (1, .int x1), (2, .int x2)] [] S := by
  unfold f_X0_enteredCaverns_28 at hf
  refine j_iinc hK (L' := [(2, .int (x2 + (1 : Int32))), (0, .ref 3), (1, .int x1)]) dX0_enteredCaverns_28 2 rfl (congrArg (fun y => x2 + y) ic_1) (by decide) rfl ?_
  refine j_goto hK 4 dX0_enteredCaverns_31 (by decide) ?_
  refine j_sub [1, 2, 0] rfl ?_
  exact hk _ _ hf
def f_X0_enteredCaverns_4b (e : Int32 × Int32 → St → Option (Int32 × St)) (k : Int32 × Int32 → St → Option (Int32 × St)) (v : Int32 × Int32) (S : St) : Option (Int32 × St) := (if (gI S 3 2) ≤ v.2 then e (v.1, v.2) S else bd (f_X0_isOpen v.2 S) (fun r1 S2 => (if r1 = 0 then f_X0_enteredCaverns_28 v.1 v.2 k e S2 else bd (f_X0_endsOf v.2 S2) (fun r4 S5 => lt (v.1 ||| r4) (fun y7 => f_X0_enteredCaverns_28 y7 v.2 k e S5)))))
theorem t_X0_enteredCaverns_4 {K : CT} (hK : KO K cX0_enteredCaverns RX0 3 2 (some .int)) {r : Int32} {S' : St} (hA : zans K = (some (.int r), S')) {e : Int32 × Int32 → St → Option (Int32 × St)} (he : ∀ (v : Int32 × Int32) (S : St), e v S = some (r, S') → J K 34 [(1, .int v.1)] [] S) : ∀ (n : Nat) (v : Int32 × Int32) (S : St), lp (f_X0_enteredCaverns_4b  e) n v S = some (r, S') → J K 4 [(0, .ref 3), (1, .int v.1), (2, .int v.2)] [] S :=
  lp_J (P := fun (v : Int32 × Int32) (S : St) => J K 4 [(0, .ref 3), (1, .int v.1), (2, .int v.2)] [] S) (fun k hk v S hf => by
    unfold f_X0_enteredCaverns_4b at hf
    refine j_iload_n hK dX0_enteredCaverns_4 2 rfl rfl ?_
    refine j_aload_n hK dX0_enteredCaverns_5 0 rfl rfl ?_
    refine j_getI hK fl_X0_18 dX0_enteredCaverns_6 zo_3 zf_0_2 ?_
    refine j_icmp_ge hK 34 dX0_enteredCaverns_9 (by decide) (fun hc => ?_) (fun hc => ?_)
    · replace hf := if_1 hc hf
      refine j_sub [1] rfl ?_
      exact he _ _ hf
    · replace hf := if_2 hc hf
      refine j_aload_n hK dX0_enteredCaverns_12 0 rfl rfl ?_
      refine j_iload_n hK dX0_enteredCaverns_13 2 rfl rfl ?_
      obtain ⟨r1, S2, h3, hf⟩ := bd_J hf
      refine k_callVi hK (c_X0_isOpen h3) dX0_enteredCaverns_14 zclX0 zo_3 ml_X0_49 mi_X0_isOpen mx_X0_isOpen in_X0 mc_X0_isOpen hy_X0_isOpen ⟨by decide, by decide⟩ rfl (Nat.le_of_ble_eq_true rfl) ?_
      refine j_if_eq hK 28 dX0_enteredCaverns_17 (by decide) (fun hc => ?_) (fun hc => ?_)
      · replace hf := if_1 hc hf
        exact t_X0_enteredCaverns_28 hK hA hk he hf
      · replace hf := if_2 hc hf
        refine j_iload_n hK dX0_enteredCaverns_20 1 rfl rfl ?_
        refine j_aload_n hK dX0_enteredCaverns_21 0 rfl rfl ?_
        refine j_iload_n hK dX0_enteredCaverns_22 2 rfl rfl ?_
        obtain ⟨r4, S5, h6, hf⟩ := bd_J hf
        refine k_callVi hK (c_X0_endsOf h6) dX0_enteredCaverns_23 zclX0 zo_3 ml_X0_53 mi_X0_endsOf mx_X0_endsOf in_X0 mc_X0_endsOf hy_X0_endsOf ⟨by decide, by decide⟩ rfl (Nat.le_of_ble_eq_true rfl) ?_
        refine j_ior hK dX0_enteredCaverns_26 ?_
        refine lt_I hf (fun y7 hf => ?_)
        refine j_istore_n hK (L' := [(1, .int y7), (0, .ref 3), (2, .int v.2)]) dX0_enteredCaverns_27 rfl (by decide) rfl ?_
        refine j_sub [1, 0, 2] rfl ?_
        exact t_X0_enteredCaverns_28 hK hA hk he hf)
def f_X0_enteredCaverns (S : St) : Option (Int32 × St) := lp (f_X0_enteredCaverns_4b  (fun v8 S9 => some (v8.1, S9))) FU ((0 : Int32), (0 : Int32)) S
theorem c_X0_enteredCaverns {S : St} {r : Int32} {S' : St} (hf : f_X0_enteredCaverns S = some (r, S')) : zM yX0_enteredCaverns cX0_enteredCaverns 3 2 (some .int) [.ref 3] S (some (.int r)) S' := by
  refine zM_of (zpl (by decide)) (Nat.le_of_ble_eq_true rfl) rfl (fun K hK hA => ?_)
  unfold f_X0_enteredCaverns at hf
  refine j_iconst hK (0 : Int32) dX0_enteredCaverns_0 ic_0 ?_
  refine j_istore_n hK (L' := [(1, .int (0 : Int32)), (0, .ref 3)]) dX0_enteredCaverns_1 rfl (by decide) rfl ?_
  refine j_iconst hK (0 : Int32) dX0_enteredCaverns_2 ic_0 ?_
  refine j_istore_n hK (L' := [(2, .int (0 : Int32)), (1, .int (0 : Int32)), (0, .ref 3)]) dX0_enteredCaverns_3 rfl (by decide) rfl ?_
  refine j_sub [2, 1, 0] rfl ?_
  refine t_X0_enteredCaverns_4 hK hA  (fun v8 S9 hf => ?_) _ _ _ hf
  refine j_iload_n hK dX0_enteredCaverns_34 0 rfl rfl ?_
  exact j_iret hK dX0_enteredCaverns_35 rfl (rt_I hA hf)
def f_X0_delayOfAll_4b (e : Int32 × Int32 → St → Option (Int32 × St)) (k : Int32 × Int32 → St → Option (Int32 × St)) (v : Int32 × Int32) (S : St) : Option (Int32 × St) := (if (gI S 3 2) ≤ v.2 then e (v.1, v.2) S else if inb v.2 12 then lt (v.1 + (gI S 7 v.2.toNatClampNeg)) (fun y2 => k (y2, (v.2 + (1 : Int32))) S) else none)
theorem t_X0_delayOfAll_4 {K : CT} (hK : KO K cX0_delayOfAll RX0 3 1 (some .int)) {r : Int32} {S' : St} (hA : zans K = (some (.int r), S')) {e : Int32 × Int32 → St → Option (Int32 × St)} (he : ∀ (v : Int32 × Int32) (S : St), e v S = some (r, S') → J K 30 [(1, .int v.1)] [] S) : ∀ (n : Nat) (v : Int32 × Int32) (S : St), lp (f_X0_delayOfAll_4b  e) n v S = some (r, S') → J K 4 [(0, .ref 3), (1, .int v.1), (2, .int v.2)] [] S :=
  lp_J (P := fun (v : Int32 × Int32) (S : St) => J K 4 [(0, .ref 3), (1, .int v.1), (2, .int v.2)] [] S) (fun k hk v S hf => by
    unfold f_X0_delayOfAll_4b at hf
    refine j_iload_n hK dX0_delayOfAll_4 2 rfl rfl ?_
    refine j_aload_n hK dX0_delayOfAll_5 0 rfl rfl ?_
    refine j_getI hK fl_X0_18 dX0_delayOfAll_6 zo_3 zf_0_2 ?_
    refine j_icmp_ge hK 30 dX0_delayOfAll_9 (by decide) (fun hc => ?_) (fun hc => ?_)
    · replace hf := if_1 hc hf
      refine j_sub [1] rfl ?_
      exact he _ _ hf
    · replace hf := if_2 hc hf
      refine j_iload_n hK dX0_delayOfAll_12 1 rfl rfl ?_
      refine j_aload_n hK dX0_delayOfAll_13 0 rfl rfl ?_
      refine j_getR hK fl_X0_25 dX0_delayOfAll_14 zo_3 zf_0_3 zr_3_3 ?_
      refine j_getR hK fl_X0_29 dX0_delayOfAll_17 zo_6 zf_7_0 zr_6_0 ?_
      refine j_iload_n hK dX0_delayOfAll_20 2 rfl rfl ?_
      obtain ⟨hi1, hf⟩ := gd hf
      refine k_iald hK dX0_delayOfAll_21 zb_7 hi1 rfl ?_
      refine j_iadd hK dX0_delayOfAll_22 ?_
      refine j_pc (pc' := 23) rfl ?_
      refine lt_I hf (fun y2 hf => ?_)
      refine j_istore_n hK (L' := [(1, .int y2), (0, .ref 3), (2, .int v.2)]) dX0_delayOfAll_23 rfl (by decide) rfl ?_
      refine j_iinc hK (L' := [(2, .int (v.2 + (1 : Int32))), (1, .int y2), (0, .ref 3)]) dX0_delayOfAll_24 2 rfl (congrArg (fun y => v.2 + y) ic_1) (by decide) rfl ?_
      refine j_goto hK 4 dX0_delayOfAll_27 (by decide) ?_
      refine j_sub [2, 1, 0] rfl ?_
      exact hk _ _ hf)
def f_X0_delayOfAll (S : St) : Option (Int32 × St) := lp (f_X0_delayOfAll_4b  (fun v3 S4 => some (v3.1, S4))) FU ((0 : Int32), (0 : Int32)) S
theorem c_X0_delayOfAll {S : St} {r : Int32} {S' : St} (hf : f_X0_delayOfAll S = some (r, S')) : zM yX0_delayOfAll cX0_delayOfAll 3 1 (some .int) [.ref 3] S (some (.int r)) S' := by
  refine zM_of (zpl (by decide)) (Nat.le_of_ble_eq_true rfl) rfl (fun K hK hA => ?_)
  unfold f_X0_delayOfAll at hf
  refine j_iconst hK (0 : Int32) dX0_delayOfAll_0 ic_0 ?_
  refine j_istore_n hK (L' := [(1, .int (0 : Int32)), (0, .ref 3)]) dX0_delayOfAll_1 rfl (by decide) rfl ?_
  refine j_iconst hK (0 : Int32) dX0_delayOfAll_2 ic_0 ?_
  refine j_istore_n hK (L' := [(2, .int (0 : Int32)), (1, .int (0 : Int32)), (0, .ref 3)]) dX0_delayOfAll_3 rfl (by decide) rfl ?_
  refine j_sub [2, 1, 0] rfl ?_
  refine t_X0_delayOfAll_4 hK hA  (fun v3 S4 hf => ?_) _ _ _ hf
  refine j_iload_n hK dX0_delayOfAll_30 0 rfl rfl ?_
  exact j_iret hK dX0_delayOfAll_31 rfl (rt_I hA hf)
