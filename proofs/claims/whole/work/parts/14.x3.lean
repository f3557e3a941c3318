def f_X3_add_15 (x1 : Int32) (x2 : Int32) (x3 : Int32) (s0 : Int32) (S : St) : Option (Int32 × St) := bd (f_X10_isLetter x1 S) (fun r1 S2 => (if r1 = 0 then some ((0 : Int32), S2) else (if s0 = 0 then some ((0 : Int32), S2) else bd (f_X10_isLetter x3 S2) (fun r4 S5 => (if r4 = 0 then some ((0 : Int32), S5) else (if (gI S5 104 3) < (10 : Int32) then if inb (gI S5 104 3) 10 then lt (sI S5 105 (gI S5 104 3).toNatClampNeg x1) (fun S8 => if inb (gI S8 104 3) 10 then lt (sI S8 106 (gI S8 104 3).toNatClampNeg x2) (fun S10 => if inb (gI S10 104 3) 10 then lt (sI S10 107 (gI S10 104 3).toNatClampNeg x3) (fun S12 => lt (sI S12 104 3 ((gI S12 104 3) + (1 : Int32))) (fun S13 => some ((1 : Int32), S13))) else none) else none) else none else some ((0 : Int32), S5)))))))
theorem t_X3_add_15 {K : CT} (hK : KO K cX3_add RX3 5 2 (some .boolean)) {r : Int32} {S' : St} (hA : zans K = (some (.int r), S')) {x1 : Int32} {x2 : Int32} {x3 : Int32} {s0 : Int32} {S : St} (hf : f_X3_add_15 x1 x2 x3 s0 S = some (r, S')) : J K 15 [(0, .ref 104), (1, .int x1), (2, .int x2), (3, .int x3)] [.int s0] S := by
  unfold f_X3_add_15 at hf
  refine j_istore hK (L' := [(4, .int s0), (0, .ref 104), (1, .int x1), (2, .int x2), (3, .int x3)]) dX3_add_15 (by decide) rfl ?_
  refine j_iload_n hK dX3_add_17 2 rfl rfl ?_
  obtain ⟨r1, S2, h3, hf⟩ := bd_J hf
  refine k_callSi hK (c_X10_isLetter h3) dX3_add_18 ml_X3_34 ms_X10_isLetter in_X10 mc_X10_isLetter hy_X10_isLetter ⟨by decide, by decide⟩ rfl (Nat.le_of_ble_eq_true rfl) ?_
  refine j_if_eq hK 45 dX3_add_21 (by decide) (fun hc => ?_) (fun hc => ?_)
  · replace hf := if_1 hc hf
    refine j_iconst hK (0 : Int32) dX3_add_45 ic_0 ?_
    exact j_zret hK dX3_add_46 rfl rfl (rt_I hA hf)
  · replace hf := if_2 hc hf
    refine j_iload hK dX3_add_24 0 rfl ?_
    refine j_if_eq hK 45 dX3_add_26 (by decide) (fun hc => ?_) (fun hc => ?_)
    · replace hf := if_1 hc hf
      refine j_iconst hK (0 : Int32) dX3_add_45 ic_0 ?_
      exact j_zret hK dX3_add_46 rfl rfl (rt_I hA hf)
    · replace hf := if_2 hc hf
      refine j_iload_n hK dX3_add_29 4 rfl rfl ?_
      obtain ⟨r4, S5, h6, hf⟩ := bd_J hf
      refine k_callSi hK (c_X10_isLetter h6) dX3_add_30 ml_X3_34 ms_X10_isLetter in_X10 mc_X10_isLetter hy_X10_isLetter ⟨by decide, by decide⟩ rfl (Nat.le_of_ble_eq_true rfl) ?_
      refine j_if_eq hK 45 dX3_add_33 (by decide) (fun hc => ?_) (fun hc => ?_)
      · replace hf := if_1 hc hf
        refine j_iconst hK (0 : Int32) dX3_add_45 ic_0 ?_
        exact j_zret hK dX3_add_46 rfl rfl (rt_I hA hf)
      · replace hf := if_2 hc hf
        refine j_aload_n hK dX3_add_36 1 rfl rfl ?_
        refine j_getI hK fl_X3_21 dX3_add_37 zo_104 zf_3_3 ?_
        refine j_bipush hK (10 : Int32) dX3_add_40 bi_10 ?_
        refine j_icmp_lt hK 47 dX3_add_42 (by decide) (fun hc => ?_) (fun hc => ?_)
        · replace hf := if_1 hc hf
          refine j_aload_n hK dX3_add_47 1 rfl rfl ?_
          refine j_getR hK fl_X3_11 dX3_add_48 zo_104 zf_3_0 zr_104_0 ?_
          refine j_aload_n hK dX3_add_51 1 rfl rfl ?_
          refine j_getI hK fl_X3_21 dX3_add_52 zo_104 zf_3_3 ?_
          refine j_iload_n hK dX3_add_55 2 rfl rfl ?_
          obtain ⟨hi7, hf⟩ := gd hf
          refine k_iast hK dX3_add_56 zb_105 hi7 rfl ?_
          refine lt_S hf (fun S8 hf => ?_)
          refine j_aload_n hK dX3_add_57 1 rfl rfl ?_
          refine j_pc (pc' := 58) rfl ?_
          refine j_getR hK fl_X3_15 dX3_add_58 zo_104 zf_3_1 zr_104_1 ?_
          refine j_aload_n hK dX3_add_61 1 rfl rfl ?_
          refine j_getI hK fl_X3_21 dX3_add_62 zo_104 zf_3_3 ?_
          refine j_iload_n hK dX3_add_65 3 rfl rfl ?_
          obtain ⟨hi9, hf⟩ := gd hf
          refine k_iast hK dX3_add_66 zb_106 hi9 rfl ?_
          refine lt_S hf (fun S10 hf => ?_)
          refine j_aload_n hK dX3_add_67 1 rfl rfl ?_
          refine j_getR hK fl_X3_18 dX3_add_68 zo_104 zf_3_2 zr_104_2 ?_
          refine j_aload_n hK dX3_add_71 1 rfl rfl ?_
          refine j_pc (pc' := 72) rfl ?_
          refine j_getI hK fl_X3_21 dX3_add_72 zo_104 zf_3_3 ?_
          refine j_iload_n hK dX3_add_75 4 rfl rfl ?_
          obtain ⟨hi11, hf⟩ := gd hf
          refine k_iast hK dX3_add_76 zb_107 hi11 rfl ?_
          refine lt_S hf (fun S12 hf => ?_)
          refine j_aload_n hK dX3_add_77 1 rfl rfl ?_
          refine j_dup hK dX3_add_78 rfl ?_
          refine j_getI hK fl_X3_21 dX3_add_79 zo_104 zf_3_3 ?_
          refine j_iconst hK (1 : Int32) dX3_add_82 ic_1 ?_
          refine j_iadd hK dX3_add_83 ?_
          refine j_pc (pc' := 84) rfl ?_
          refine j_putI hK fl_X3_21 dX3_add_84 zo_104 zf_3_3 ?_
          refine lt_S hf (fun S13 hf => ?_)
          refine j_iconst hK (1 : Int32) dX3_add_87 ic_1 ?_
          exact j_zret hK dX3_add_88 rfl rfl (rt_I hA hf)
        · replace hf := if_2 hc hf
          refine j_iconst hK (0 : Int32) dX3_add_45 ic_0 ?_
          exact j_zret hK dX3_add_46 rfl rfl (rt_I hA hf)
def f_X3_add_14 (x1 : Int32) (x2 : Int32) (x3 : Int32) (S : St) : Option (Int32 × St) := f_X3_add_15 x1 x2 x3 (0 : Int32) S
theorem t_X3_add_14 {K : CT} (hK : KO K cX3_add RX3 5 2 (some .boolean)) {r : Int32} {S' : St} (hA : zans K = (some (.int r), S')) {x1 : Int32} {x2 : Int32} {x3 : Int32} {S : St} (hf : f_X3_add_14 x1 x2 x3 S = some (r, S')) : J K 14 [(0, .ref 104), (1, .int x1), (2, .int x2), (3, .int x3)] [] S := by
  unfold f_X3_add_14 at hf
  refine j_iconst hK (0 : Int32) dX3_add_14 ic_0 ?_
  exact t_X3_add_15 hK hA  hf
def f_X3_add (p1 : Int32) (p2 : Int32) (p3 : Int32) (S : St) : Option (Int32 × St) := (if p2 < 0 then f_X3_add_14 p1 p2 p3 S else (if (9 : Int32) < p2 then f_X3_add_14 p1 p2 p3 S else f_X3_add_15 p1 p2 p3 (1 : Int32) S))
theorem c_X3_add {p1 : Int32} {p2 : Int32} {p3 : Int32} {S : St} {r : Int32} {S' : St} (hf : f_X3_add p1 p2 p3 S = some (r, S')) : zM yX3_add cX3_add 5 2 (some .boolean) [.ref 104, .int p1, .int p2, .int p3] S (some (.int r)) S' := by
  refine zM_of (zpl (by decide)) (Nat.le_of_ble_eq_true rfl) rfl (fun K hK hA => ?_)
  unfold f_X3_add at hf
  refine j_iload_n hK dX3_add_0 2 rfl rfl ?_
  refine j_if_lt hK 14 dX3_add_1 (by decide) (fun hc => ?_) (fun hc => ?_)
  · replace hf := if_1 hc hf
    exact t_X3_add_14 hK hA  hf
  · replace hf := if_2 hc hf
    refine j_iload_n hK dX3_add_4 2 rfl rfl ?_
    refine j_bipush hK (9 : Int32) dX3_add_5 bi_9 ?_
    refine j_icmp_gt hK 14 dX3_add_7 (by decide) (fun hc => ?_) (fun hc => ?_)
    · replace hf := if_1 hc hf
      exact t_X3_add_14 hK hA  hf
    · replace hf := if_2 hc hf
      refine j_iconst hK (1 : Int32) dX3_add_10 ic_1 ?_
      refine j_goto hK 15 dX3_add_11 (by decide) ?_
      exact t_X3_add_15 hK hA  hf
def f_X3_becomesBy (p0 : Int32) (p1 : Int32) (p2 : Int32) (S : St) : Option (Int32 × St) := lt (((p0 / (8 : Int32)) * p1) + ((p0 - p0 / (8 : Int32) * (8 : Int32)) * p2)) (fun y1 => some ((y1 - y1 / (8 : Int32) * (8 : Int32)), S))
theorem c_X3_becomesBy {p0 : Int32} {p1 : Int32} {p2 : Int32} {S : St} {r : Int32} {S' : St} (hf : f_X3_becomesBy p0 p1 p2 S = some (r, S')) : zM yX3_becomesBy cX3_becomesBy 3 1 (some .int) [.int p0, .int p1, .int p2] S (some (.int r)) S' := by
  refine zM_of (zpl (by decide)) (Nat.le_of_ble_eq_true rfl) rfl (fun K hK hA => ?_)
  unfold f_X3_becomesBy at hf
  refine j_iload_n hK dX3_becomesBy_0 0 rfl rfl ?_
  refine j_bipush hK (8 : Int32) dX3_becomesBy_1 bi_8 ?_
  refine j_idiv hK dX3_becomesBy_3 (by decide) ?_
  refine j_iload_n hK dX3_becomesBy_4 1 rfl rfl ?_
  refine j_imul hK dX3_becomesBy_5 ?_
  refine j_iload_n hK dX3_becomesBy_6 0 rfl rfl ?_
  refine j_bipush hK (8 : Int32) dX3_becomesBy_7 bi_8 ?_
  refine j_irem hK dX3_becomesBy_9 (by decide) ?_
  refine j_pc (pc' := 10) rfl ?_
  refine j_iload_n hK dX3_becomesBy_10 2 rfl rfl ?_
  refine j_imul hK dX3_becomesBy_11 ?_
  refine j_iadd hK dX3_becomesBy_12 ?_
  refine lt_I hf (fun y1 hf => ?_)
  refine j_bipush hK (8 : Int32) dX3_becomesBy_13 bi_8 ?_
  refine j_irem hK dX3_becomesBy_15 (by decide) ?_
  exact j_iret hK dX3_becomesBy_16 rfl (rt_I hA hf)
def f_X3_fitsHeard_2b (x1 : Int32) (e : Int32 → St → Option (Int32 × St)) (k : Int32 → St → Option (Int32 × St)) (v : Int32) (S : St) : Option (Int32 × St) := (if (gI S 104 3) ≤ v then e v S else if inb v 10 then if inb v 10 then bd (f_X3_becomesBy x1 (gI S 105 v.toNatClampNeg) (gI S 106 v.toNatClampNeg) S) (fun r3 S4 => if inb v 10 then (if r3 = (gI S4 107 v.toNatClampNeg) then k (v + (1 : Int32)) S4 else some ((0 : Int32), S4)) else none) else none else none)
theorem t_X3_fitsHeard_2 {K : CT} (hK : KO K cX3_fitsHeard RX3 3 2 (some .boolean)) {r : Int32} {S' : St} (hA : zans K = (some (.int r), S')) {x1 : Int32} {e : Int32 → St → Option (Int32 × St)} (he : ∀ (v : Int32) (S : St), e v S = some (r, S') → J K 43 [] [] S) : ∀ (n : Nat) (v : Int32) (S : St), lp (f_X3_fitsHeard_2b x1 e) n v S = some (r, S') → J K 2 [(0, .ref 104), (1, .int x1), (2, .int v)] [] S :=
  lp_J (P := fun (v : Int32) (S : St) => J K 2 [(0, .ref 104), (1, .int x1), (2, .int v)] [] S) (fun k hk v S hf => by
    unfold f_X3_fitsHeard_2b at hf
    refine j_iload_n hK dX3_fitsHeard_2 2 rfl rfl ?_
    refine j_aload_n hK dX3_fitsHeard_3 0 rfl rfl ?_
    refine j_getI hK fl_X3_21 dX3_fitsHeard_4 zo_104 zf_3_3 ?_
    refine j_icmp_ge hK 43 dX3_fitsHeard_7 (by decide) (fun hc => ?_) (fun hc => ?_)
    · replace hf := if_1 hc hf
      refine j_sub [] rfl ?_
      exact he _ _ hf
    · replace hf := if_2 hc hf
      refine j_iload_n hK dX3_fitsHeard_10 1 rfl rfl ?_
      refine j_aload_n hK dX3_fitsHeard_11 0 rfl rfl ?_
      refine j_getR hK fl_X3_11 dX3_fitsHeard_12 zo_104 zf_3_0 zr_104_0 ?_
      refine j_iload_n hK dX3_fitsHeard_15 2 rfl rfl ?_
      obtain ⟨hi1, hf⟩ := gd hf
      refine k_iald hK dX3_fitsHeard_16 zb_105 hi1 rfl ?_
      refine j_aload_n hK dX3_fitsHeard_17 0 rfl rfl ?_
      refine j_getR hK fl_X3_15 dX3_fitsHeard_18 zo_104 zf_3_1 zr_104_1 ?_
      refine j_pc (pc' := 21) rfl ?_
      refine j_iload_n hK dX3_fitsHeard_21 2 rfl rfl ?_
      obtain ⟨hi2, hf⟩ := gd hf
      refine k_iald hK dX3_fitsHeard_22 zb_106 hi2 rfl ?_
      obtain ⟨r3, S4, h5, hf⟩ := bd_J hf
      refine k_callSi hK (c_X3_becomesBy h5) dX3_fitsHeard_23 ml_X3_41 ms_X3_becomesBy in_X3 mc_X3_becomesBy hy_X3_becomesBy ⟨by decide, by decide⟩ rfl (Nat.le_of_ble_eq_true rfl) ?_
      refine j_aload_n hK dX3_fitsHeard_26 0 rfl rfl ?_
      refine j_getR hK fl_X3_18 dX3_fitsHeard_27 zo_104 zf_3_2 zr_104_2 ?_
      refine j_iload_n hK dX3_fitsHeard_30 2 rfl rfl ?_
      obtain ⟨hi6, hf⟩ := gd hf
      refine k_iald hK dX3_fitsHeard_31 zb_107 hi6 rfl ?_
      refine j_icmp_eq hK 37 dX3_fitsHeard_32 (by decide) (fun hc => ?_) (fun hc => ?_)
      · replace hf := if_1 hc hf
        refine j_iinc hK (L' := [(2, .int (v + (1 : Int32))), (0, .ref 104), (1, .int x1)]) dX3_fitsHeard_37 2 rfl (congrArg (fun y => v + y) ic_1) (by decide) rfl ?_
        refine j_goto hK 2 dX3_fitsHeard_40 (by decide) ?_
        refine j_sub [1, 2, 0] rfl ?_
        exact hk _ _ hf
      · replace hf := if_2 hc hf
        refine j_iconst hK (0 : Int32) dX3_fitsHeard_35 ic_0 ?_
        exact j_zret hK dX3_fitsHeard_36 rfl rfl (rt_I hA hf))
def f_X3_fitsHeard (p1 : Int32) (S : St) : Option (Int32 × St) := lp (f_X3_fitsHeard_2b p1 (fun v7 S8 => some ((1 : Int32), S8))) FU (0 : Int32) S
theorem c_X3_fitsHeard {p1 : Int32} {S : St} {r : Int32} {S' : St} (hf : f_X3_fitsHeard p1 S = some (r, S')) : zM yX3_fitsHeard cX3_fitsHeard 3 2 (some .boolean) [.ref 104, .int p1] S (some (.int r)) S' := by
  refine zM_of (zpl (by decide)) (Nat.le_of_ble_eq_true rfl) rfl (fun K hK hA => ?_)
  unfold f_X3_fitsHeard at hf
  refine j_iconst hK (0 : Int32) dX3_fitsHeard_0 ic_0 ?_
  refine j_istore_n hK (L' := [(2, .int (0 : Int32)), (0, .ref 104), (1, .int p1)]) dX3_fitsHeard_1 rfl (by decide) rfl ?_
  refine j_sub [1, 2, 0] rfl ?_
  refine t_X3_fitsHeard_2 hK hA  (fun v7 S8 hf => ?_) _ _ _ hf
  refine j_iconst hK (1 : Int32) dX3_fitsHeard_43 ic_1 ?_
  exact j_zret hK dX3_fitsHeard_44 rfl rfl (rt_I hA hf)
def f_X3_findFitting_41 (x1 : Int32) (k e : Int32 → St → Option (Unit × St)) (S : St) : Option (Unit × St) := k (x1 + (1 : Int32)) S
theorem t_X3_findFitting_41 {K : CT} (hK : KO K cX3_findFitting RX3 2 3 none) {r : Unit} {S' : St} (hA : zans K = (none, S')) {x1 : Int32} {k e : Int32 → St → Option (Unit × St)} (hk : ∀ (v : Int32) (S : St), k v S = some (r, S') → J K 7 [(0, .ref 104), (1, .int v)] [] S) (he : ∀ (v : Int32) (S : St), e v S = some (r, S') → J K 47 [] [] S) {S : St} (hf : f_X3_findFitting_41 x1 k e S = some (r, S')) : J K 41 [(0, .ref 104), (1, .int x1)] [] S := by
  unfold f_X3_findFitting_41 at hf
  refine j_iinc hK (L' := [(1, .int (x1 + (1 : Int32))), (0, .ref 104)]) dX3_findFitting_41 1 rfl (congrArg (fun y => x1 + y) ic_1) (by decide) rfl ?_
  refine j_goto hK 7 dX3_findFitting_44 (by decide) ?_
  refine j_sub [1, 0] rfl ?_
  exact hk _ _ hf
def f_X3_findFitting_7b (e : Int32 → St → Option (Unit × St)) (k : Int32 → St → Option (Unit × St)) (v : Int32) (S : St) : Option (Unit × St) := (if (64 : Int32) ≤ v then e v S else bd (f_X3_fitsHeard v S) (fun r1 S2 => (if r1 = 0 then f_X3_findFitting_41 v k e S2 else if inb (gI S2 104 5) 64 then lt (sI S2 108 (gI S2 104 5).toNatClampNeg v) (fun S5 => lt (sI S5 104 5 ((gI S5 104 5) + (1 : Int32))) (fun S6 => f_X3_findFitting_41 v k e S6)) else none)))
theorem t_X3_findFitting_7 {K : CT} (hK : KO K cX3_findFitting RX3 2 3 none) {r : Unit} {S' : St} (hA : zans K = (none, S')) {e : Int32 → St → Option (Unit × St)} (he : ∀ (v : Int32) (S : St), e v S = some (r, S') → J K 47 [] [] S) : ∀ (n : Nat) (v : Int32) (S : St), lp (f_X3_findFitting_7b  e) n v S = some (r, S') → J K 7 [(0, .ref 104), (1, .int v)] [] S :=
  lp_J (P := fun (v : Int32) (S : St) => J K 7 [(0, .ref 104), (1, .int v)] [] S) (fun k hk v S hf => by
    unfold f_X3_findFitting_7b at hf
    refine j_iload_n hK dX3_findFitting_7 1 rfl rfl ?_
    refine j_bipush hK (64 : Int32) dX3_findFitting_8 bi_64 ?_
    refine j_icmp_ge hK 47 dX3_findFitting_10 (by decide) (fun hc => ?_) (fun hc => ?_)
    · replace hf := if_1 hc hf
      refine j_sub [] rfl ?_
      exact he _ _ hf
    · replace hf := if_2 hc hf
      refine j_aload_n hK dX3_findFitting_13 0 rfl rfl ?_
      refine j_iload_n hK dX3_findFitting_14 1 rfl rfl ?_
      obtain ⟨r1, S2, h3, hf⟩ := bd_J hf
      refine k_callVi hK (c_X3_fitsHeard h3) dX3_findFitting_15 zclX3 zo_104 ml_X3_38 mi_X3_fitsHeard mx_X3_fitsHeard in_X3 mc_X3_fitsHeard hy_X3_fitsHeard ⟨by decide, by decide⟩ rfl (Nat.le_of_ble_eq_true rfl) ?_
      refine j_if_eq hK 41 dX3_findFitting_18 (by decide) (fun hc => ?_) (fun hc => ?_)
      · replace hf := if_1 hc hf
        exact t_X3_findFitting_41 hK hA hk he hf
      · replace hf := if_2 hc hf
        refine j_aload_n hK dX3_findFitting_21 0 rfl rfl ?_
        refine j_getR hK fl_X3_25 dX3_findFitting_22 zo_104 zf_3_4 zr_104_4 ?_
        refine j_aload_n hK dX3_findFitting_25 0 rfl rfl ?_
        refine j_getI hK fl_X3_28 dX3_findFitting_26 zo_104 zf_3_5 ?_
        refine j_iload_n hK dX3_findFitting_29 1 rfl rfl ?_
        obtain ⟨hi4, hf⟩ := gd hf
        refine k_iast hK dX3_findFitting_30 zb_108 hi4 rfl ?_
        refine lt_S hf (fun S5 hf => ?_)
        refine j_aload_n hK dX3_findFitting_31 0 rfl rfl ?_
        refine j_pc (pc' := 32) rfl ?_
        refine j_dup hK dX3_findFitting_32 rfl ?_
        refine j_getI hK fl_X3_28 dX3_findFitting_33 zo_104 zf_3_5 ?_
        refine j_iconst hK (1 : Int32) dX3_findFitting_36 ic_1 ?_
        refine j_iadd hK dX3_findFitting_37 ?_
        refine j_putI hK fl_X3_28 dX3_findFitting_38 zo_104 zf_3_5 ?_
        refine lt_S hf (fun S6 hf => ?_)
        exact t_X3_findFitting_41 hK hA hk he hf)
def f_X3_findFitting (S : St) : Option (Unit × St) := lt (sI S 104 5 (0 : Int32)) (fun S7 => lp (f_X3_findFitting_7b  (fun v8 S9 => some ((), S9))) FU (0 : Int32) S7)
theorem c_X3_findFitting {S : St} {r : Unit} {S' : St} (hf : f_X3_findFitting S = some (r, S')) : zM yX3_findFitting cX3_findFitting 2 3 none [.ref 104] S (none) S' := by
  refine zM_of (zpl (by decide)) (Nat.le_of_ble_eq_true rfl) rfl (fun K hK hA => ?_)
  unfold f_X3_findFitting at hf
  refine j_aload_n hK dX3_findFitting_0 0 rfl rfl ?_
  refine j_iconst hK (0 : Int32) dX3_findFitting_1 ic_0 ?_
  refine j_putI hK fl_X3_28 dX3_findFitting_2 zo_104 zf_3_5 ?_
  refine lt_S hf (fun S7 hf => ?_)
  refine j_iconst hK (0 : Int32) dX3_findFitting_5 ic_0 ?_
  refine j_istore_n hK (L' := [(1, .int (0 : Int32)), (0, .ref 104)]) dX3_findFitting_6 rfl (by decide) rfl ?_
  refine j_sub [1, 0] rfl ?_
  refine t_X3_findFitting_7 hK hA  (fun v8 S9 hf => ?_) _ _ _ hf
  exact j_vret hK dX3_findFitting_47 rfl (rt_V hA hf)
def f_X3_mostLeft_26b (x1 : Int32) (x2 : Int32) (e : Int32 × Int32 → St → Option (Int32 × St)) (k : Int32 × Int32 → St → Option (Int32 × St)) (v : Int32 × Int32) (S : St) : Option (Int32 × St) := (if (gI S 104 5) ≤ v.2 then e (v.1, v.2) S else if inb v.2 64 then bd (f_X3_becomesBy (gI S 108 v.2.toNatClampNeg) x1 x2 S) (fun r2 S3 => if inb r2 8 then if inb r2 8 then lt (sI S3 109 r2.toNatClampNeg ((gI S3 109 r2.toNatClampNeg) + (1 : Int32))) (fun S7 => if inb r2 8 then lt (mxI v.1 (gI S7 109 r2.toNatClampNeg)) (fun y9 => k (y9, (v.2 + (1 : Int32))) S7) else none) else none else none) else none)
theorem t_X3_mostLeft_26 {K : CT} (hK : KO K cX3_mostLeft RX3 6 2 (some .int)) {r : Int32} {S' : St} (hA : zans K = (some (.int r), S')) {x1 : Int32} {x2 : Int32} {e : Int32 × Int32 → St → Option (Int32 × St)} (he : ∀ (v : Int32 × Int32) (S : St), e v S = some (r, S') → J K 78 [(3, .int v.1)] [] S) : ∀ (n : Nat) (v : Int32 × Int32) (S : St), lp (f_X3_mostLeft_26b x1 x2 e) n v S = some (r, S') → J K 26 [(0, .ref 104), (1, .int x1), (2, .int x2), (3, .int v.1), (4, .int v.2)] [] S :=
  lp_J (P := fun (v : Int32 × Int32) (S : St) => J K 26 [(0, .ref 104), (1, .int x1), (2, .int x2), (3, .int v.1), (4, .int v.2)] [] S) (fun k hk v S hf => by
    unfold f_X3_mostLeft_26b at hf
    refine j_iload hK dX3_mostLeft_26 4 rfl ?_
    refine j_aload_n hK dX3_mostLeft_28 0 rfl rfl ?_
    refine j_getI hK fl_X3_28 dX3_mostLeft_29 zo_104 zf_3_5 ?_
    refine j_icmp_ge hK 78 dX3_mostLeft_32 (by decide) (fun hc => ?_) (fun hc => ?_)
    · replace hf := if_1 hc hf
      refine j_sub [3] rfl ?_
      exact he _ _ hf
    · replace hf := if_2 hc hf
      refine j_aload_n hK dX3_mostLeft_35 0 rfl rfl ?_
      refine j_getR hK fl_X3_25 dX3_mostLeft_36 zo_104 zf_3_4 zr_104_4 ?_
      refine j_iload hK dX3_mostLeft_39 4 rfl ?_
      obtain ⟨hi1, hf⟩ := gd hf
      refine k_iald hK dX3_mostLeft_41 zb_108 hi1 rfl ?_
      refine j_iload_n hK dX3_mostLeft_42 1 rfl rfl ?_
      refine j_iload_n hK dX3_mostLeft_43 2 rfl rfl ?_
      obtain ⟨r2, S3, h4, hf⟩ := bd_J hf
      refine k_callSi hK (c_X3_becomesBy h4) dX3_mostLeft_44 ml_X3_41 ms_X3_becomesBy in_X3 mc_X3_becomesBy hy_X3_becomesBy ⟨by decide, by decide⟩ rfl (Nat.le_of_ble_eq_true rfl) ?_
      refine j_pc (pc' := 47) rfl ?_
      refine j_istore hK (L' := [(5, .int r2), (0, .ref 104), (1, .int x1), (2, .int x2), (3, .int v.1), (4, .int v.2)]) dX3_mostLeft_47 (by decide) rfl ?_
      refine j_aload_n hK dX3_mostLeft_49 1 rfl rfl ?_
      refine j_getR hK fl_X3_31 dX3_mostLeft_50 zo_104 zf_3_6 zr_104_6 ?_
      refine j_iload hK dX3_mostLeft_53 0 rfl ?_
      refine j_dup2 hK dX3_mostLeft_55 rfl rfl ?_
      obtain ⟨hi5, hf⟩ := gd hf
      refine k_iald hK dX3_mostLeft_56 zb_109 hi5 rfl ?_
      refine j_iconst hK (1 : Int32) dX3_mostLeft_57 ic_1 ?_
      refine j_iadd hK dX3_mostLeft_58 ?_
      refine j_pc (pc' := 59) rfl ?_
      obtain ⟨hi6, hf⟩ := gd hf
      refine k_iast hK dX3_mostLeft_59 zb_109 hi6 rfl ?_
      refine lt_S hf (fun S7 hf => ?_)
      refine j_iload_n hK dX3_mostLeft_60 4 rfl rfl ?_
      refine j_aload_n hK dX3_mostLeft_61 1 rfl rfl ?_
      refine j_getR hK fl_X3_31 dX3_mostLeft_62 zo_104 zf_3_6 zr_104_6 ?_
      refine j_iload hK dX3_mostLeft_65 0 rfl ?_
      obtain ⟨hi8, hf⟩ := gd hf
      refine k_iald hK dX3_mostLeft_67 zb_109 hi8 rfl ?_
      refine j_max hK ml_X3_45 dX3_mostLeft_68 (by decide) (Nat.le_of_ble_eq_true rfl) ?_
      refine lt_I hf (fun y9 hf => ?_)
      refine j_istore_n hK (L' := [(3, .int y9), (5, .int r2), (0, .ref 104), (1, .int x1), (2, .int x2), (4, .int v.2)]) dX3_mostLeft_71 rfl (by decide) rfl ?_
      refine j_pc (pc' := 72) rfl ?_
      refine j_iinc hK (L' := [(4, .int (v.2 + (1 : Int32))), (3, .int y9), (5, .int r2), (0, .ref 104), (1, .int x1), (2, .int x2)]) dX3_mostLeft_72 5 rfl (congrArg (fun y => v.2 + y) ic_1) (by decide) rfl ?_
      refine j_goto hK 26 dX3_mostLeft_75 (by decide) ?_
      refine j_sub [3, 4, 5, 1, 0] rfl ?_
      exact hk _ _ hf)
def f_X3_mostLeft_2b (x1 : Int32) (x2 : Int32) (e : Int32 → St → Option (Int32 × St)) (k : Int32 → St → Option (Int32 × St)) (v : Int32) (S : St) : Option (Int32 × St) := (if (8 : Int32) ≤ v then e v S else if inb v 8 then lt (sI S 109 v.toNatClampNeg (0 : Int32)) (fun S11 => k (v + (1 : Int32)) S11) else none)
theorem t_X3_mostLeft_2 {K : CT} (hK : KO K cX3_mostLeft RX3 6 2 (some .int)) {r : Int32} {S' : St} (hA : zans K = (some (.int r), S')) {x1 : Int32} {x2 : Int32} {e : Int32 → St → Option (Int32 × St)} (he : ∀ (v : Int32) (S : St), e v S = some (r, S') → J K 21 [(0, .ref 104), (1, .int x1), (2, .int x2)] [] S) : ∀ (n : Nat) (v : Int32) (S : St), lp (f_X3_mostLeft_2b x1 x2 e) n v S = some (r, S') → J K 2 [(0, .ref 104), (1, .int x1), (2, .int x2), (3, .int v)] [] S :=
  lp_J (P := fun (v : Int32) (S : St) => J K 2 [(0, .ref 104), (1, .int x1), (2, .int x2), (3, .int v)] [] S) (fun k hk v S hf => by
    unfold f_X3_mostLeft_2b at hf
    refine j_iload_n hK dX3_mostLeft_2 3 rfl rfl ?_
    refine j_bipush hK (8 : Int32) dX3_mostLeft_3 bi_8 ?_
    refine j_icmp_ge hK 21 dX3_mostLeft_5 (by decide) (fun hc => ?_) (fun hc => ?_)
    · replace hf := if_1 hc hf
      refine j_sub [0, 1, 2] rfl ?_
      exact he _ _ hf
    · replace hf := if_2 hc hf
      refine j_aload_n hK dX3_mostLeft_8 0 rfl rfl ?_
      refine j_getR hK fl_X3_31 dX3_mostLeft_9 zo_104 zf_3_6 zr_104_6 ?_
      refine j_iload_n hK dX3_mostLeft_12 3 rfl rfl ?_
      refine j_iconst hK (0 : Int32) dX3_mostLeft_13 ic_0 ?_
      obtain ⟨hi10, hf⟩ := gd hf
      refine k_iast hK dX3_mostLeft_14 zb_109 hi10 rfl ?_
      refine lt_S hf (fun S11 hf => ?_)
      refine j_iinc hK (L' := [(3, .int (v + (1 : Int32))), (0, .ref 104), (1, .int x1), (2, .int x2)]) dX3_mostLeft_15 3 rfl (congrArg (fun y => v + y) ic_1) (by decide) rfl ?_
      refine j_goto hK 2 dX3_mostLeft_18 (by decide) ?_
      refine j_sub [1, 2, 3, 0] rfl ?_
      exact hk _ _ hf)
def f_X3_mostLeft (p1 : Int32) (p2 : Int32) (S : St) : Option (Int32 × St) := lp (f_X3_mostLeft_2b p1 p2 (fun v12 S13 => lp (f_X3_mostLeft_26b p1 p2 (fun v14 S15 => some (v14.1, S15))) FU ((0 : Int32), (0 : Int32)) S13)) FU (0 : Int32) S
theorem c_X3_mostLeft {p1 : Int32} {p2 : Int32} {S : St} {r : Int32} {S' : St} (hf : f_X3_mostLeft p1 p2 S = some (r, S')) : zM yX3_mostLeft cX3_mostLeft 6 2 (some .int) [.ref 104, .int p1, .int p2] S (some (.int r)) S' := by
  refine zM_of (zpl (by decide)) (Nat.le_of_ble_eq_true rfl) rfl (fun K hK hA => ?_)
  unfold f_X3_mostLeft at hf
  refine j_iconst hK (0 : Int32) dX3_mostLeft_0 ic_0 ?_
  refine j_istore_n hK (L' := [(3, .int (0 : Int32)), (0, .ref 104), (1, .int p1), (2, .int p2)]) dX3_mostLeft_1 rfl (by decide) rfl ?_
  refine j_sub [1, 2, 3, 0] rfl ?_
  refine t_X3_mostLeft_2 hK hA  (fun v12 S13 hf => ?_) _ _ _ hf
  refine j_iconst hK (0 : Int32) dX3_mostLeft_21 ic_0 ?_
  refine j_istore_n hK (L' := [(3, .int (0 : Int32)), (0, .ref 104), (1, .int p1), (2, .int p2)]) dX3_mostLeft_22 rfl (by decide) rfl ?_
  refine j_iconst hK (0 : Int32) dX3_mostLeft_23 ic_0 ?_
  refine j_istore hK (L' := [(4, .int (0 : Int32)), (3, .int (0 : Int32)), (0, .ref 104), (1, .int p1), (2, .int p2)]) dX3_mostLeft_24 (by decide) rfl ?_
  refine j_sub [2, 3, 4, 1, 0] rfl ?_
  refine t_X3_mostLeft_26 hK hA  (fun v14 S15 hf => ?_) _ _ _ hf
  refine j_iload_n hK dX3_mostLeft_78 0 rfl rfl ?_
  exact j_iret hK dX3_mostLeft_79 rfl (rt_I hA hf)
