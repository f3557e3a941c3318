def f_X10_heard (p1 : Int32) (p2 : Int32) (p3 : Int32) (S : St) : Option (Int32 × St) := bd (f_X3_add p1 p2 p3 S) (fun r1 S2 => (if r1 = 0 then some ((-1 : Int32), S2) else some ((gI S2 104 3), S2)))
theorem c_X10_heard {p1 : Int32} {p2 : Int32} {p3 : Int32} {S : St} {r : Int32} {S' : St} (hf : f_X10_heard p1 p2 p3 S = some (r, S')) : zM yX10_heard cX10_heard 4 3 (some .int) [.ref 0, .int p1, .int p2, .int p3] S (some (.int r)) S' := by
  refine zM_of (zpl (by decide)) (Nat.le_of_ble_eq_true rfl) rfl (fun K hK hA => ?_)
  unfold f_X10_heard at hf
  refine j_aload_n hK dX10_heard_0 0 rfl rfl ?_
  refine j_getR hK fl_X10_63 dX10_heard_1 zo_0 zf_10_7 zr_0_7 ?_
  refine j_iload_n hK dX10_heard_4 1 rfl rfl ?_
  refine j_iload_n hK dX10_heard_5 2 rfl rfl ?_
  refine j_iload_n hK dX10_heard_6 3 rfl rfl ?_
  obtain ⟨r1, S2, h3, hf⟩ := bd_J hf
  refine k_callVi hK (c_X3_add h3) dX10_heard_7 zclX3 zo_104 ml_X10_349 mi_X3_add mx_X3_add in_X3 mc_X3_add hy_X3_add ⟨by decide, by decide⟩ rfl (Nat.le_of_ble_eq_true rfl) ?_
  refine j_if_eq hK 23 dX10_heard_10 (by decide) (fun hc => ?_) (fun hc => ?_)
  · replace hf := if_1 hc hf
    refine j_iconst hK (-1 : Int32) dX10_heard_23 ic_m1 ?_
    exact j_iret hK dX10_heard_24 rfl (rt_I hA hf)
  · replace hf := if_2 hc hf
    refine j_aload_n hK dX10_heard_13 0 rfl rfl ?_
    refine j_getR hK fl_X10_63 dX10_heard_14 zo_0 zf_10_7 zr_0_7 ?_
    refine j_getI hK fl_X10_352 dX10_heard_17 zo_104 zf_3_3 ?_
    refine j_goto hK 24 dX10_heard_20 (by decide) ?_
    exact j_iret hK dX10_heard_24 rfl (rt_I hA hf)
def f_X10_denied (S : St) : Option (Int32 × St) := lt (gI S 104 3) (fun y1 => lt (sI S 104 3 (0 : Int32)) (fun S2 => some (y1, S2)))
theorem c_X10_denied {S : St} {r : Int32} {S' : St} (hf : f_X10_denied S = some (r, S')) : zM yX10_denied cX10_denied 2 1 (some .int) [.ref 0] S (some (.int r)) S' := by
  refine zM_of (zpl (by decide)) (Nat.le_of_ble_eq_true rfl) rfl (fun K hK hA => ?_)
  unfold f_X10_denied at hf
  refine j_aload_n hK dX10_denied_0 0 rfl rfl ?_
  refine j_getR hK fl_X10_63 dX10_denied_1 zo_0 zf_10_7 zr_0_7 ?_
  refine j_getI hK fl_X10_352 dX10_denied_4 zo_104 zf_3_3 ?_
  refine lt_I hf (fun y1 hf => ?_)
  refine j_istore_n hK (L' := [(1, .int y1), (0, .ref 0)]) dX10_denied_7 rfl (by decide) rfl ?_
  refine j_aload_n hK dX10_denied_8 1 rfl rfl ?_
  refine j_getR hK fl_X10_63 dX10_denied_9 zo_0 zf_10_7 zr_0_7 ?_
  refine j_iconst hK (0 : Int32) dX10_denied_12 ic_0 ?_
  refine j_putI hK fl_X10_352 dX10_denied_13 zo_104 zf_3_3 ?_
  refine lt_S hf (fun S2 hf => ?_)
  refine j_pc (pc' := 16) rfl ?_
  refine j_iload_n hK dX10_denied_16 0 rfl rfl ?_
  exact j_iret hK dX10_denied_17 rfl (rt_I hA hf)
def f_X3_becomesBy (p0 : Int32) (p1 : Int32) (p2 : Int32) (S : St) : Option (Int32 × St) := lt (((p0 / (8 : Int32)) * p1) + ((p0 - p0 / (8 : Int32) * (8 : Int32)) * p2)) (fun y1 => some ((y1 - y1 / (8 : Int32) * (8 : Int32)), S))
theorem c_X3_becomesBy {p0 : Int32} {p1 : Int32} {p2 : Int32} {S : St} {r : Int32} {S' : St} (hf : f_X3_becomesBy p0 p1 p2 S = some (r, S')) : zM yX3_becomesBy cX3_becomesBy 3 1 (some .int) [.int p0, .int p1, .int p2] S (some (.int r)) S' := by
  refine zM_of (zpl (by decide)) (Nat.le_of_ble_eq_true rfl) rfl (fun K hK hA => ?_)
  unfold f_X3_becomesBy at hf
  refine j_iload_n hK dX3_becomesBy_0 0 rfl rfl ?_
  refine j_bipush hK (8 : Int32) dX3_becomesBy_1 bi_8 ?_
  refine j_idiv hK dX3_becomesBy_3 (by decide) ?_
  refine j_iload_n hK dX3_becomesBy_4 1 rfl rfl ?_
  refine j_imul hK dX3_becomesBy_5 ?_
  refine j_iload_n hK dX3_becomesBy_6 0 rfl rfl ?_
  refine j_bipush hK (8 : Int32) dX3_becomesBy_7 bi_8 ?_
  refine j_irem hK dX3_becomesBy_9 (by decide) ?_
  refine j_pc (pc' := 10) rfl ?_
  refine j_iload_n hK dX3_becomesBy_10 2 rfl rfl ?_
  refine j_imul hK dX3_becomesBy_11 ?_
  refine j_iadd hK dX3_becomesBy_12 ?_
  refine lt_I hf (fun y1 hf => ?_)
  refine j_bipush hK (8 : Int32) dX3_becomesBy_13 bi_8 ?_
  refine j_irem hK dX3_becomesBy_15 (by decide) ?_
  exact j_iret hK dX3_becomesBy_16 rfl (rt_I hA hf)
def f_X3_fitsHeard_2b (x1 : Int32) (e : Int32 → St → Option (Int32 × St)) (k : Int32 → St → Option (Int32 × St)) (v : Int32) (S : St) : Option (Int32 × St) := (if (gI S 104 3) ≤ v then e v S else if inb v 10 then if inb v 10 then bd (f_X3_becomesBy x1 (gI S 105 v.toNatClampNeg) (gI S 106 v.toNatClampNeg) S) (fun r3 S4 => if inb v 10 then (if r3 = (gI S4 107 v.toNatClampNeg) then k (v + (1 : Int32)) S4 else some ((0 : Int32), S4)) else none) else none else none)
theorem t_X3_fitsHeard_2 {K : CT} (hK : KO K cX3_fitsHeard RX3 3 2 (some .boolean)) {r : Int32} {S' : St} (hA : zans K (some (.int r), S')) {x1 : Int32} {e : Int32 → St → Option (Int32 × St)} (he : ∀ (v : Int32) (S : St), e v S = some (r, S') → J K 43 [] [] S) : ∀ (n : Nat) (v : Int32) (S : St), lp (f_X3_fitsHeard_2b x1 e) n v S = some (r, S') → J K 2 [(0, .ref 104), (1, .int x1), (2, .int v)] [] S :=
  lp_J (P := fun (v : Int32) (S : St) => J K 2 [(0, .ref 104), (1, .int x1), (2, .int v)] [] S) (fun k hk v S hf => by
    unfold f_X3_fitsHeard_2b at hf
    refine j_iload_n hK dX3_fitsHeard_2 2 rfl rfl ?_
    refine j_aload_n hK dX3_fitsHeard_3 0 rfl rfl ?_
    refine j_getI hK fl_X3_21 dX3_fitsHeard_4 zo_104 zf_3_3 ?_
    refine j_icmp_ge hK 43 dX3_fitsHeard_7 (by decide) (fun hc => ?_) (fun hc => ?_)
    · replace hf := if_1 hc hf
      refine j_sub [] rfl ?_
      exact he _ _ hf
    · replace hf := if_2 hc hf
      refine j_iload_n hK dX3_fitsHeard_10 1 rfl rfl ?_
      refine j_aload_n hK dX3_fitsHeard_11 0 rfl rfl ?_
      refine j_getR hK fl_X3_11 dX3_fitsHeard_12 zo_104 zf_3_0 zr_104_0 ?_
      refine j_iload_n hK dX3_fitsHeard_15 2 rfl rfl ?_
      obtain ⟨hi1, hf⟩ := gd hf
      refine k_iald hK dX3_fitsHeard_16 zb_105 hi1 rfl ?_
      refine j_aload_n hK dX3_fitsHeard_17 0 rfl rfl ?_
      refine j_getR hK fl_X3_15 dX3_fitsHeard_18 zo_104 zf_3_1 zr_104_1 ?_
      refine j_pc (pc' := 21) rfl ?_
      refine j_iload_n hK dX3_fitsHeard_21 2 rfl rfl ?_
      obtain ⟨hi2, hf⟩ := gd hf
      refine k_iald hK dX3_fitsHeard_22 zb_106 hi2 rfl ?_
      obtain ⟨r3, S4, h5, hf⟩ := bd_J hf
      refine k_callSi hK (c_X3_becomesBy h5) dX3_fitsHeard_23 ml_X3_41 ms_X3_becomesBy in_X3 mc_X3_becomesBy hy_X3_becomesBy ⟨by decide, by decide⟩ rfl (Nat.le_of_ble_eq_true rfl) ?_
      refine j_aload_n hK dX3_fitsHeard_26 0 rfl rfl ?_
      refine j_getR hK fl_X3_18 dX3_fitsHeard_27 zo_104 zf_3_2 zr_104_2 ?_
      refine j_iload_n hK dX3_fitsHeard_30 2 rfl rfl ?_
      obtain ⟨hi6, hf⟩ := gd hf
      refine k_iald hK dX3_fitsHeard_31 zb_107 hi6 rfl ?_
      refine j_icmp_eq hK 37 dX3_fitsHeard_32 (by decide) (fun hc => ?_) (fun hc => ?_)
      · replace hf := if_1 hc hf
        refine j_iinc hK (L' := [(2, .int (v + (1 : Int32))), (0, .ref 104), (1, .int x1)]) dX3_fitsHeard_37 2 rfl (congrArg (fun y => v + y) ic_1) (by decide) rfl ?_
        refine j_goto hK 2 dX3_fitsHeard_40 (by decide) ?_
        refine j_sub [1, 2, 0] rfl ?_
        exact hk _ _ hf
      · replace hf := if_2 hc hf
        refine j_iconst hK (0 : Int32) dX3_fitsHeard_35 ic_0 ?_
        exact j_zret hK dX3_fitsHeard_36 rfl rfl (rt_I hA hf))
def f_X3_fitsHeard (p1 : Int32) (S : St) : Option (Int32 × St) := lp (f_X3_fitsHeard_2b p1 (fun v7 S8 => some ((1 : Int32), S8))) FU (0 : Int32) S
theorem c_X3_fitsHeard {p1 : Int32} {S : St} {r : Int32} {S' : St} (hf : f_X3_fitsHeard p1 S = some (r, S')) : zM yX3_fitsHeard cX3_fitsHeard 3 2 (some .boolean) [.ref 104, .int p1] S (some (.int r)) S' := by
  refine zM_of (zpl (by decide)) (Nat.le_of_ble_eq_true rfl) rfl (fun K hK hA => ?_)
  unfold f_X3_fitsHeard at hf
  refine j_iconst hK (0 : Int32) dX3_fitsHeard_0 ic_0 ?_
  refine j_istore_n hK (L' := [(2, .int (0 : Int32)), (0, .ref 104), (1, .int p1)]) dX3_fitsHeard_1 rfl (by decide) rfl ?_
  refine j_sub [1, 2, 0] rfl ?_
  refine t_X3_fitsHeard_2 hK hA  (fun v7 S8 hf => ?_) _ _ _ hf
  refine j_iconst hK (1 : Int32) dX3_fitsHeard_43 ic_1 ?_
  exact j_zret hK dX3_fitsHeard_44 rfl rfl (rt_I hA hf)
def f_X3_findFitting_41 (x1 : Int32) (k e : Int32 → St → Option (Unit × St)) (S : St) : Option (Unit × St) := k (x1 + (1 : Int32)) S
theorem t_X3_findFitting_41 {K : CT} (hK : KO K cX3_findFitting RX3 2 3 none) {r : Unit} {S' : St} (hA : zans K (none, S')) {x1 : Int32} {k e : Int32 → St → Option (Unit × St)} (hk : ∀ (v : Int32) (S : St), k v S = some (r, S') → J K 7 [(0, .ref 104), (1, .int v)] [] S) (he : ∀ (v : Int32) (S : St), e v S = some (r, S') → J K 47 [] [] S) {S : St} (hf : f_X3_findFitting_41 x1 k e S = some (r, S')) : J K 41 [(0, .ref 104), (1, .int x1)] [] S := by
  unfold f_X3_findFitting_41 at hf
  refine j_iinc hK (L' := [(1, .int (x1 + (1 : Int32))), (0, .ref 104)]) dX3_findFitting_41 1 rfl (congrArg (fun y => x1 + y) ic_1) (by decide) rfl ?_
  refine j_goto hK 7 dX3_findFitting_44 (by decide) ?_
  refine j_sub [1, 0] rfl ?_
  exact hk _ _ hf
def f_X3_findFitting_7b (e : Int32 → St → Option (Unit × St)) (k : Int32 → St → Option (Unit × St)) (v : Int32) (S : St) : Option (Unit × St) := (if (64 : Int32) ≤ v then e v S else bd (f_X3_fitsHeard v S) (fun r1 S2 => (if r1 = 0 then f_X3_findFitting_41 v k e S2 else if inb (gI S2 104 5) 64 then lt (sI S2 108 (gI S2 104 5).toNatClampNeg v) (fun S5 => lt (sI S5 104 5 ((gI S5 104 5) + (1 : Int32))) (fun S6 => f_X3_findFitting_41 v k e S6)) else none)))
theorem t_X3_findFitting_7 {K : CT} (hK : KO K cX3_findFitting RX3 2 3 none) {r : Unit} {S' : St} (hA : zans K (none, S')) {e : Int32 → St → Option (Unit × St)} (he : ∀ (v : Int32) (S : St), e v S = some (r, S') → J K 47 [] [] S) : ∀ (n : Nat) (v : Int32) (S : St), lp (f_X3_findFitting_7b  e) n v S = some (r, S') → J K 7 [(0, .ref 104), (1, .int v)] [] S :=
  lp_J (P := fun (v : Int32) (S : St) => J K 7 [(0, .ref 104), (1, .int v)] [] S) (fun k hk v S hf => by
    unfold f_X3_findFitting_7b at hf
    refine j_iload_n hK dX3_findFitting_7 1 rfl rfl ?_
    refine j_bipush hK (64 : Int32) dX3_findFitting_8 bi_64 ?_
    refine j_icmp_ge hK 47 dX3_findFitting_10 (by decide) (fun hc => ?_) (fun hc => ?_)
    · replace hf := if_1 hc hf
      refine j_sub [] rfl ?_
      exact he _ _ hf
    · replace hf := if_2 hc hf
      refine j_aload_n hK dX3_findFitting_13 0 rfl rfl ?_
      refine j_iload_n hK dX3_findFitting_14 1 rfl rfl ?_
      obtain ⟨r1, S2, h3, hf⟩ := bd_J hf
      refine k_callVi hK (c_X3_fitsHeard h3) dX3_findFitting_15 zclX3 zo_104 ml_X3_38 mi_X3_fitsHeard mx_X3_fitsHeard in_X3 mc_X3_fitsHeard hy_X3_fitsHeard ⟨by decide, by decide⟩ rfl (Nat.le_of_ble_eq_true rfl) ?_
      refine j_if_eq hK 41 dX3_findFitting_18 (by decide) (fun hc => ?_) (fun hc => ?_)
      · replace hf := if_1 hc hf
        exact t_X3_findFitting_41 hK hA hk he hf
      · replace hf := if_2 hc hf
        refine j_aload_n hK dX3_findFitting_21 0 rfl rfl ?_
        refine j_getR hK fl_X3_25 dX3_findFitting_22 zo_104 zf_3_4 zr_104_4 ?_
        refine j_aload_n hK dX3_findFitting_25 0 rfl rfl ?_
        refine j_getI hK fl_X3_28 dX3_findFitting_26 zo_104 zf_3_5 ?_
        refine j_iload_n hK dX3_findFitting_29 1 rfl rfl ?_
        obtain ⟨hi4, hf⟩ := gd hf
        refine k_iast hK dX3_findFitting_30 zb_108 hi4 rfl ?_
        refine lt_S hf (fun S5 hf => ?_)
        refine j_aload_n hK dX3_findFitting_31 0 rfl rfl ?_
        refine j_pc (pc' := 32) rfl ?_
        refine j_dup hK dX3_findFitting_32 rfl ?_
        refine j_getI hK fl_X3_28 dX3_findFitting_33 zo_104 zf_3_5 ?_
        refine j_iconst hK (1 : Int32) dX3_findFitting_36 ic_1 ?_
        refine j_iadd hK dX3_findFitting_37 ?_
        refine j_putI hK fl_X3_28 dX3_findFitting_38 zo_104 zf_3_5 ?_
        refine lt_S hf (fun S6 hf => ?_)
        exact t_X3_findFitting_41 hK hA hk he hf)
def f_X3_findFitting (S : St) : Option (Unit × St) := lt (sI S 104 5 (0 : Int32)) (fun S7 => lp (f_X3_findFitting_7b  (fun v8 S9 => some ((), S9))) FU (0 : Int32) S7)
theorem c_X3_findFitting {S : St} {r : Unit} {S' : St} (hf : f_X3_findFitting S = some (r, S')) : zM yX3_findFitting cX3_findFitting 2 3 none [.ref 104] S (none) S' := by
  refine zM_of (zpl (by decide)) (Nat.le_of_ble_eq_true rfl) rfl (fun K hK hA => ?_)
  unfold f_X3_findFitting at hf
  refine j_aload_n hK dX3_findFitting_0 0 rfl rfl ?_
  refine j_iconst hK (0 : Int32) dX3_findFitting_1 ic_0 ?_
  refine j_putI hK fl_X3_28 dX3_findFitting_2 zo_104 zf_3_5 ?_
  refine lt_S hf (fun S7 hf => ?_)
  refine j_iconst hK (0 : Int32) dX3_findFitting_5 ic_0 ?_
  refine j_istore_n hK (L' := [(1, .int (0 : Int32)), (0, .ref 104)]) dX3_findFitting_6 rfl (by decide) rfl ?_
  refine j_sub [1, 0] rfl ?_
  refine t_X3_findFitting_7 hK hA  (fun v8 S9 hf => ?_) _ _ _ hf
  exact j_vret hK dX3_findFitting_47 rfl (rt_V hA hf)
def f_X10_laws_64 (S : St) : Option (Int32 × St) := some ((gI S 104 5), S)
theorem t_X10_laws_64 {K : CT} (hK : KO K cX10_laws RX10 1 4 (some .int)) {r : Int32} {S' : St} (hA : zans K (some (.int r), S')) {S : St} (hf : f_X10_laws_64  S = some (r, S')) : J K 64 [(0, .ref 0)] [] S := by
  unfold f_X10_laws_64 at hf
  refine j_aload_n hK dX10_laws_64 0 rfl rfl ?_
  refine j_getR hK fl_X10_63 dX10_laws_65 zo_0 zf_10_7 zr_0_7 ?_
  refine j_getI hK fl_X10_356 dX10_laws_68 zo_104 zf_3_5 ?_
  exact j_iret hK dX10_laws_71 rfl (rt_I hA hf)
def f_X10_laws (S : St) : Option (Int32 × St) := bd (f_X3_findFitting S) (fun r1 S2 => bd (f_X5_begin S2) (fun r4 S5 => (if (gI S5 104 5) ≤ 0 then f_X10_laws_64  S5 else bd (f_X5_put ((gI S5 108 0) / (8 : Int32)).toInt64 S5) (fun r7 S8 => bd (f_X5_put ((gI S8 108 0) - (gI S8 108 0) / (8 : Int32) * (8 : Int32)).toInt64 S8) (fun r10 S11 => f_X10_laws_64  S11)))))
theorem c_X10_laws {S : St} {r : Int32} {S' : St} (hf : f_X10_laws S = some (r, S')) : zM yX10_laws cX10_laws 1 4 (some .int) [.ref 0] S (some (.int r)) S' := by
  refine zM_of (zpl (by decide)) (Nat.le_of_ble_eq_true rfl) rfl (fun K hK hA => ?_)
  unfold f_X10_laws at hf
  refine j_aload_n hK dX10_laws_0 0 rfl rfl ?_
  refine j_getR hK fl_X10_63 dX10_laws_1 zo_0 zf_10_7 zr_0_7 ?_
  obtain ⟨r1, S2, h3, hf⟩ := bd_J hf
  refine k_callVv hK (c_X3_findFitting h3) dX10_laws_4 zclX3 zo_104 ml_X10_353 mi_X3_findFitting mx_X3_findFitting in_X3 mc_X3_findFitting hy_X3_findFitting ⟨by decide, by decide⟩ rfl (Nat.le_of_ble_eq_true rfl) ?_
  refine j_aload_n hK dX10_laws_7 0 rfl rfl ?_
  refine j_getR hK fl_X10_26 dX10_laws_8 zo_0 zf_10_2 zr_0_2 ?_
  obtain ⟨r4, S5, h6, hf⟩ := bd_J hf
  refine k_callVv hK (c_X5_begin h6) dX10_laws_11 zclX5 zo_10 ml_X10_185 mi_X5_begin mx_X5_begin in_X5 mc_X5_begin hy_X5_begin ⟨by decide, by decide⟩ rfl (Nat.le_of_ble_eq_true rfl) ?_
  refine j_aload_n hK dX10_laws_14 0 rfl rfl ?_
  refine j_getR hK fl_X10_63 dX10_laws_15 zo_0 zf_10_7 zr_0_7 ?_
  refine j_pc (pc' := 18) rfl ?_
  refine j_getI hK fl_X10_356 dX10_laws_18 zo_104 zf_3_5 ?_
  refine j_if_le hK 64 dX10_laws_21 (by decide) (fun hc => ?_) (fun hc => ?_)
  · replace hf := if_1 hc hf
    exact t_X10_laws_64 hK hA  hf
  · replace hf := if_2 hc hf
    refine j_aload_n hK dX10_laws_24 0 rfl rfl ?_
    refine j_getR hK fl_X10_26 dX10_laws_25 zo_0 zf_10_2 zr_0_2 ?_
    refine j_aload_n hK dX10_laws_28 0 rfl rfl ?_
    refine j_getR hK fl_X10_63 dX10_laws_29 zo_0 zf_10_7 zr_0_7 ?_
    refine j_getR hK fl_X10_359 dX10_laws_32 zo_104 zf_3_4 zr_104_4 ?_
    refine j_iconst hK (0 : Int32) dX10_laws_35 ic_0 ?_
    refine k_iald hK dX10_laws_36 zb_108 (by decide) tn_0 ?_
    refine j_pc (pc' := 37) rfl ?_
    refine j_bipush hK (8 : Int32) dX10_laws_37 bi_8 ?_
    refine j_idiv hK dX10_laws_39 (by decide) ?_
    refine j_i2l hK dX10_laws_40 ?_
    obtain ⟨r7, S8, h9, hf⟩ := bd_J hf
    refine k_callVv hK (c_X5_put h9) dX10_laws_41 zclX5 zo_10 ml_X10_191 mi_X5_put mx_X5_put in_X5 mc_X5_put hy_X5_put ⟨by decide, by decide⟩ rfl (Nat.le_of_ble_eq_true rfl) ?_
    refine j_aload_n hK dX10_laws_44 0 rfl rfl ?_
    refine j_getR hK fl_X10_26 dX10_laws_45 zo_0 zf_10_2 zr_0_2 ?_
    refine j_aload_n hK dX10_laws_48 0 rfl rfl ?_
    refine j_getR hK fl_X10_63 dX10_laws_49 zo_0 zf_10_7 zr_0_7 ?_
    refine j_pc (pc' := 52) rfl ?_
    refine j_getR hK fl_X10_359 dX10_laws_52 zo_104 zf_3_4 zr_104_4 ?_
    refine j_iconst hK (0 : Int32) dX10_laws_55 ic_0 ?_
    refine k_iald hK dX10_laws_56 zb_108 (by decide) tn_0 ?_
    refine j_bipush hK (8 : Int32) dX10_laws_57 bi_8 ?_
    refine j_irem hK dX10_laws_59 (by decide) ?_
    refine j_i2l hK dX10_laws_60 ?_
    obtain ⟨r10, S11, h12, hf⟩ := bd_J hf
    refine k_callVv hK (c_X5_put h12) dX10_laws_61 zclX5 zo_10 ml_X10_191 mi_X5_put mx_X5_put in_X5 mc_X5_put hy_X5_put ⟨by decide, by decide⟩ rfl (Nat.le_of_ble_eq_true rfl) ?_
    exact t_X10_laws_64 hK hA  hf
def f_X3_mostLeft_26b (x1 : Int32) (x2 : Int32) (e : Int32 × Int32 → St → Option (Int32 × St)) (k : Int32 × Int32 → St → Option (Int32 × St)) (v : Int32 × Int32) (S : St) : Option (Int32 × St) := (if (gI S 104 5) ≤ v.2 then e (v.1, v.2) S else if inb v.2 64 then bd (f_X3_becomesBy (gI S 108 v.2.toNatClampNeg) x1 x2 S) (fun r2 S3 => if inb r2 8 then if inb r2 8 then lt (sI S3 109 r2.toNatClampNeg ((gI S3 109 r2.toNatClampNeg) + (1 : Int32))) (fun S7 => if inb r2 8 then lt (mxI v.1 (gI S7 109 r2.toNatClampNeg)) (fun y9 => k (y9, (v.2 + (1 : Int32))) S7) else none) else none else none) else none)
theorem t_X3_mostLeft_26 {K : CT} (hK : KO K cX3_mostLeft RX3 6 2 (some .int)) {r : Int32} {S' : St} (hA : zans K (some (.int r), S')) {x1 : Int32} {x2 : Int32} {e : Int32 × Int32 → St → Option (Int32 × St)} (he : ∀ (v : Int32 × Int32) (S : St), e v S = some (r, S') → J K 78 [(3, .int v.1)] [] S) : ∀ (n : Nat) (v : Int32 × Int32) (S : St), lp (f_X3_mostLeft_26b x1 x2 e) n v S = some (r, S') → J K 26 [(0, .ref 104), (1, .int x1), (2, .int x2), (3, .int v.1), (4, .int v.2)] [] S :=
  lp_J (P := fun (v : Int32 × Int32) (S : St) => J K 26 [(0, .ref 104), (1, .int x1), (2, .int x2), (3, .int v.1), (4, .int v.2)] [] S) (fun k hk v S hf => by
    unfold f_X3_mostLeft_26b at hf
    refine j_iload hK dX3_mostLeft_26 4 rfl ?_
    refine j_aload_n hK dX3_mostLeft_28 0 rfl rfl ?_
    refine j_getI hK fl_X3_28 dX3_mostLeft_29 zo_104 zf_3_5 ?_
    refine j_icmp_ge hK 78 dX3_mostLeft_32 (by decide) (fun hc => ?_) (fun hc => ?_)
    · replace hf := if_1 hc hf
      refine j_sub [3] rfl ?_
      exact he _ _ hf
    · replace hf := if_2 hc hf
      refine j_aload_n hK dX3_mostLeft_35 0 rfl rfl ?_
      refine j_getR hK fl_X3_25 dX3_mostLeft_36 zo_104 zf_3_4 zr_104_4 ?_
      refine j_iload hK dX3_mostLeft_39 4 rfl ?_
      obtain ⟨hi1, hf⟩ := gd hf
      refine k_iald hK dX3_mostLeft_41 zb_108 hi1 rfl ?_
      refine j_iload_n hK dX3_mostLeft_42 1 rfl rfl ?_
      refine j_iload_n hK dX3_mostLeft_43 2 rfl rfl ?_
      obtain ⟨r2, S3, h4, hf⟩ := bd_J hf
      refine k_callSi hK (c_X3_becomesBy h4) dX3_mostLeft_44 ml_X3_41 ms_X3_becomesBy in_X3 mc_X3_becomesBy hy_X3_becomesBy ⟨by decide, by decide⟩ rfl (Nat.le_of_ble_eq_true rfl) ?_
      refine j_pc (pc' := 47) rfl ?_
      refine j_istore hK (L' := [(5, .int r2), (0, .ref 104), (1, .int x1), (2, .int x2), (3, .int v.1), (4, .int v.2)]) dX3_mostLeft_47 (by decide) rfl ?_
      refine j_aload_n hK dX3_mostLeft_49 1 rfl rfl ?_
      refine j_getR hK fl_X3_31 dX3_mostLeft_50 zo_104 zf_3_6 zr_104_6 ?_
      refine j_iload hK dX3_mostLeft_53 0 rfl ?_
      refine j_dup2 hK dX3_mostLeft_55 rfl rfl ?_
      obtain ⟨hi5, hf⟩ := gd hf
      refine k_iald hK dX3_mostLeft_56 zb_109 hi5 rfl ?_
      refine j_iconst hK (1 : Int32) dX3_mostLeft_57 ic_1 ?_
      refine j_iadd hK dX3_mostLeft_58 ?_
      refine j_pc (pc' := 59) rfl ?_
      obtain ⟨hi6, hf⟩ := gd hf
      refine k_iast hK dX3_mostLeft_59 zb_109 hi6 rfl ?_
      refine lt_S hf (fun S7 hf => ?_)
      refine j_iload_n hK dX3_mostLeft_60 4 rfl rfl ?_
      refine j_aload_n hK dX3_mostLeft_61 1 rfl rfl ?_
      refine j_getR hK fl_X3_31 dX3_mostLeft_62 zo_104 zf_3_6 zr_104_6 ?_
      refine j_iload hK dX3_mostLeft_65 0 rfl ?_
      obtain ⟨hi8, hf⟩ := gd hf
      refine k_iald hK dX3_mostLeft_67 zb_109 hi8 rfl ?_
      refine j_max hK ml_X3_45 dX3_mostLeft_68 (by decide) (Nat.le_of_ble_eq_true rfl) ?_
      refine lt_I hf (fun y9 hf => ?_)
      refine j_istore_n hK (L' := [(3, .int y9), (5, .int r2), (0, .ref 104), (1, .int x1), (2, .int x2), (4, .int v.2)]) dX3_mostLeft_71 rfl (by decide) rfl ?_
      refine j_pc (pc' := 72) rfl ?_
      refine j_iinc hK (L' := [(4, .int (v.2 + (1 : Int32))), (3, .int y9), (5, .int r2), (0, .ref 104), (1, .int x1), (2, .int x2)]) dX3_mostLeft_72 5 rfl (congrArg (fun y => v.2 + y) ic_1) (by decide) rfl ?_
      refine j_goto hK 26 dX3_mostLeft_75 (by decide) ?_
      refine j_sub [3, 4, 5, 1, 0] rfl ?_
      exact hk _ _ hf)
def f_X3_mostLeft_2b (x1 : Int32) (x2 : Int32) (e : Int32 → St → Option (Int32 × St)) (k : Int32 → St → Option (Int32 × St)) (v : Int32) (S : St) : Option (Int32 × St) := (if (8 : Int32) ≤ v then e v S else if inb v 8 then lt (sI S 109 v.toNatClampNeg (0 : Int32)) (fun S11 => k (v + (1 : Int32)) S11) else none)
theorem t_X3_mostLeft_2 {K : CT} (hK : KO K cX3_mostLeft RX3 6 2 (some .int)) {r : Int32} {S' : St} (hA : zans K (some (.int r), S')) {x1 : Int32} {x2 : Int32} {e : Int32 → St → Option (Int32 × St)} (he : ∀ (v : Int32) (S : St), e v S = some (r, S') → J K 21 [(0, .ref 104), (1, .int x1), (2, .int x2)] [] S) : ∀ (n : Nat) (v : Int32) (S : St), lp (f_X3_mostLeft_2b x1 x2 e) n v S = some (r, S') → J K 2 [(0, .ref 104), (1, .int x1), (2, .int x2), (3, .int v)] [] S :=
  lp_J (P := fun (v : Int32) (S : St) => J K 2 [(0, .ref 104), (1, .int x1), (2, .int x2), (3, .int v)] [] S) (fun k hk v S hf => by
    unfold f_X3_mostLeft_2b at hf
    refine j_iload_n hK dX3_mostLeft_2 3 rfl rfl ?_
    refine j_bipush hK (8 : Int32) dX3_mostLeft_3 bi_8 ?_
    refine j_icmp_ge hK 21 dX3_mostLeft_5 (by decide) (fun hc => ?_) (fun hc => ?_)
    · replace hf := if_1 hc hf
      refine j_sub [0, 1, 2] rfl ?_
      exact he _ _ hf
    · replace hf := if_2 hc hf
      refine j_aload_n hK dX3_mostLeft_8 0 rfl rfl ?_
      refine j_getR hK fl_X3_31 dX3_mostLeft_9 zo_104 zf_3_6 zr_104_6 ?_
      refine j_iload_n hK dX3_mostLeft_12 3 rfl rfl ?_
      refine j_iconst hK (0 : Int32) dX3_mostLeft_13 ic_0 ?_
      obtain ⟨hi10, hf⟩ := gd hf
      refine k_iast hK dX3_mostLeft_14 zb_109 hi10 rfl ?_
      refine lt_S hf (fun S11 hf => ?_)
      refine j_iinc hK (L' := [(3, .int (v + (1 : Int32))), (0, .ref 104), (1, .int x1), (2, .int x2)]) dX3_mostLeft_15 3 rfl (congrArg (fun y => v + y) ic_1) (by decide) rfl ?_
      refine j_goto hK 2 dX3_mostLeft_18 (by decide) ?_
      refine j_sub [1, 2, 3, 0] rfl ?_
      exact hk _ _ hf)
def f_X3_mostLeft (p1 : Int32) (p2 : Int32) (S : St) : Option (Int32 × St) := lp (f_X3_mostLeft_2b p1 p2 (fun v12 S13 => lp (f_X3_mostLeft_26b p1 p2 (fun v14 S15 => some (v14.1, S15))) FU ((0 : Int32), (0 : Int32)) S13)) FU (0 : Int32) S
theorem c_X3_mostLeft {p1 : Int32} {p2 : Int32} {S : St} {r : Int32} {S' : St} (hf : f_X3_mostLeft p1 p2 S = some (r, S')) : zM yX3_mostLeft cX3_mostLeft 6 2 (some .int) [.ref 104, .int p1, .int p2] S (some (.int r)) S' := by
  refine zM_of (zpl (by decide)) (Nat.le_of_ble_eq_true rfl) rfl (fun K hK hA => ?_)
  unfold f_X3_mostLeft at hf
  refine j_iconst hK (0 : Int32) dX3_mostLeft_0 ic_0 ?_
  refine j_istore_n hK (L' := [(3, .int (0 : Int32)), (0, .ref 104), (1, .int p1), (2, .int p2)]) dX3_mostLeft_1 rfl (by decide) rfl ?_
  refine j_sub [1, 2, 3, 0] rfl ?_
  refine t_X3_mostLeft_2 hK hA  (fun v12 S13 hf => ?_) _ _ _ hf
  refine j_iconst hK (0 : Int32) dX3_mostLeft_21 ic_0 ?_
  refine j_istore_n hK (L' := [(3, .int (0 : Int32)), (0, .ref 104), (1, .int p1), (2, .int p2)]) dX3_mostLeft_22 rfl (by decide) rfl ?_
  refine j_iconst hK (0 : Int32) dX3_mostLeft_23 ic_0 ?_
  refine j_istore hK (L' := [(4, .int (0 : Int32)), (3, .int (0 : Int32)), (0, .ref 104), (1, .int p1), (2, .int p2)]) dX3_mostLeft_24 (by decide) rfl ?_
  refine j_sub [2, 3, 4, 1, 0] rfl ?_
  refine t_X3_mostLeft_26 hK hA  (fun v14 S15 hf => ?_) _ _ _ hf
  refine j_iload_n hK dX3_mostLeft_78 0 rfl rfl ?_
  exact j_iret hK dX3_mostLeft_79 rfl (rt_I hA hf)
def f_X10_listens_72 (x1 : Int32) (x2 : Int32) (x3 : Int32) (x4 : Int32) (k e : Int32 × Int32 × Int32 → St → Option (Int32 × St)) (S : St) : Option (Int32 × St) := k (x1, x2, (x4 + (1 : Int32))) S
theorem t_X10_listens_72 {K : CT} (hK : KO K cX10_listens RX10 6 4 (some .int)) {r : Int32} {S' : St} (hA : zans K (some (.int r), S')) {x1 : Int32} {x2 : Int32} {x3 : Int32} {x4 : Int32} {k e : Int32 × Int32 × Int32 → St → Option (Int32 × St)} (hk : ∀ (v : Int32 × Int32 × Int32) (S : St), k v S = some (r, S') → J K 36 [(0, .ref 0), (1, .int v.1), (2, .int v.2.1), (3, .int x3), (4, .int v.2.2)] [] S) (he : ∀ (v : Int32 × Int32 × Int32) (S : St), e v S = some (r, S') → J K 78 [(0, .ref 0), (1, .int v.1), (2, .int v.2.1), (3, .int x3)] [] S) {S : St} (hf : f_X10_listens_72 x1 x2 x3 x4 k e S = some (r, S')) : J K 72 [(0, .ref 0), (1, .int x1), (2, .int x2), (3, .int x3), (4, .int x4)] [] S := by
  unfold f_X10_listens_72 at hf
  refine j_iinc hK (L' := [(4, .int (x4 + (1 : Int32))), (0, .ref 0), (1, .int x1), (2, .int x2), (3, .int x3)]) dX10_listens_72 4 rfl (congrArg (fun y => x4 + y) ic_1) (by decide) rfl ?_
  refine j_goto hK 36 dX10_listens_75 (by decide) ?_
  refine j_sub [1, 2, 3, 4, 0] rfl ?_
  exact hk _ _ hf
def f_X10_listens_36b (x3 : Int32) (e : Int32 × Int32 × Int32 → St → Option (Int32 × St)) (k : Int32 × Int32 × Int32 → St → Option (Int32 × St)) (v : Int32 × Int32 × Int32) (S : St) : Option (Int32 × St) := (if (9 : Int32) < v.2.2 then e (v.1, v.2.1, v.2.2) S else bd (f_X3_mostLeft x3 v.2.2 S) (fun r1 S2 => (if v.2.1 ≤ r1 then f_X10_listens_72 v.1 v.2.1 x3 v.2.2 k e S2 else lt (((10 : Int32) * x3) + v.2.2) (fun y4 => f_X10_listens_72 y4 r1 x3 v.2.2 k e S2))))
theorem t_X10_listens_36 {K : CT} (hK : KO K cX10_listens RX10 6 4 (some .int)) {r : Int32} {S' : St} (hA : zans K (some (.int r), S')) {x3 : Int32} {e : Int32 × Int32 × Int32 → St → Option (Int32 × St)} (he : ∀ (v : Int32 × Int32 × Int32) (S : St), e v S = some (r, S') → J K 78 [(0, .ref 0), (1, .int v.1), (2, .int v.2.1), (3, .int x3)] [] S) : ∀ (n : Nat) (v : Int32 × Int32 × Int32) (S : St), lp (f_X10_listens_36b x3 e) n v S = some (r, S') → J K 36 [(0, .ref 0), (1, .int v.1), (2, .int v.2.1), (3, .int x3), (4, .int v.2.2)] [] S :=
  lp_J (P := fun (v : Int32 × Int32 × Int32) (S : St) => J K 36 [(0, .ref 0), (1, .int v.1), (2, .int v.2.1), (3, .int x3), (4, .int v.2.2)] [] S) (fun k hk v S hf => by
    unfold f_X10_listens_36b at hf
    refine j_iload hK dX10_listens_36 4 rfl ?_
    refine j_bipush hK (9 : Int32) dX10_listens_38 bi_9 ?_
    refine j_icmp_gt hK 78 dX10_listens_40 (by decide) (fun hc => ?_) (fun hc => ?_)
    · replace hf := if_1 hc hf
      refine j_sub [0, 1, 2, 3] rfl ?_
      exact he _ _ hf
    · replace hf := if_2 hc hf
      refine j_aload_n hK dX10_listens_43 0 rfl rfl ?_
      refine j_getR hK fl_X10_63 dX10_listens_44 zo_0 zf_10_7 zr_0_7 ?_
      refine j_iload_n hK dX10_listens_47 3 rfl rfl ?_
      refine j_iload hK dX10_listens_48 4 rfl ?_
      obtain ⟨r1, S2, h3, hf⟩ := bd_J hf
      refine k_callVi hK (c_X3_mostLeft h3) dX10_listens_50 zclX3 zo_104 ml_X10_362 mi_X3_mostLeft mx_X3_mostLeft in_X3 mc_X3_mostLeft hy_X3_mostLeft ⟨by decide, by decide⟩ rfl (Nat.le_of_ble_eq_true rfl) ?_
      refine j_istore hK (L' := [(5, .int r1), (0, .ref 0), (1, .int v.1), (2, .int v.2.1), (3, .int x3), (4, .int v.2.2)]) dX10_listens_53 (by decide) rfl ?_
      refine j_iload hK dX10_listens_55 0 rfl ?_
      refine j_pc (pc' := 57) rfl ?_
      refine j_iload_n hK dX10_listens_57 3 rfl rfl ?_
      refine j_icmp_ge hK 72 dX10_listens_58 (by decide) (fun hc => ?_) (fun hc => ?_)
      · replace hf := if_1 hc hf
        refine j_sub [1, 2, 3, 4, 5] rfl ?_
        exact t_X10_listens_72 hK hA hk he hf
      · replace hf := if_2 hc hf
        refine j_bipush hK (10 : Int32) dX10_listens_61 bi_10 ?_
        refine j_iload_n hK dX10_listens_63 4 rfl rfl ?_
        refine j_imul hK dX10_listens_64 ?_
        refine j_iload hK dX10_listens_65 5 rfl ?_
        refine j_iadd hK dX10_listens_67 ?_
        refine lt_I hf (fun y4 hf => ?_)
        refine j_istore_n hK (L' := [(1, .int y4), (5, .int r1), (0, .ref 0), (2, .int v.2.1), (3, .int x3), (4, .int v.2.2)]) dX10_listens_68 rfl (by decide) rfl ?_
        refine j_iload hK dX10_listens_69 1 rfl ?_
        refine j_pc (pc' := 71) rfl ?_
        refine j_istore_n hK (L' := [(2, .int r1), (1, .int y4), (5, .int r1), (0, .ref 0), (3, .int x3), (4, .int v.2.2)]) dX10_listens_71 rfl (by decide) rfl ?_
        refine j_sub [3, 1, 0, 4, 5] rfl ?_
        exact t_X10_listens_72 hK hA hk he hf)
def f_X10_listens_27b (e : Int32 × Int32 × Int32 → St → Option (Int32 × St)) (k : Int32 × Int32 × Int32 → St → Option (Int32 × St)) (v : Int32 × Int32 × Int32) (S : St) : Option (Int32 × St) := (if (8 : Int32) ≤ v.2.2 then e (v.1, v.2.1, v.2.2) S else lp (f_X10_listens_36b v.2.2 (fun v5 S6 => k (v5.1, v5.2.1, (v.2.2 + (1 : Int32))) S6)) FU (v.1, v.2.1, (0 : Int32)) S)
theorem t_X10_listens_27 {K : CT} (hK : KO K cX10_listens RX10 6 4 (some .int)) {r : Int32} {S' : St} (hA : zans K (some (.int r), S')) {e : Int32 × Int32 × Int32 → St → Option (Int32 × St)} (he : ∀ (v : Int32 × Int32 × Int32) (S : St), e v S = some (r, S') → J K 84 [(0, .ref 0), (1, .int v.1), (2, .int v.2.1)] [] S) : ∀ (n : Nat) (v : Int32 × Int32 × Int32) (S : St), lp (f_X10_listens_27b  e) n v S = some (r, S') → J K 27 [(0, .ref 0), (1, .int v.1), (2, .int v.2.1), (3, .int v.2.2)] [] S :=
  lp_J (P := fun (v : Int32 × Int32 × Int32) (S : St) => J K 27 [(0, .ref 0), (1, .int v.1), (2, .int v.2.1), (3, .int v.2.2)] [] S) (fun k hk v S hf => by
    unfold f_X10_listens_27b at hf
    refine j_iload_n hK dX10_listens_27 3 rfl rfl ?_
    refine j_bipush hK (8 : Int32) dX10_listens_28 bi_8 ?_
    refine j_icmp_ge hK 84 dX10_listens_30 (by decide) (fun hc => ?_) (fun hc => ?_)
    · replace hf := if_1 hc hf
      refine j_sub [0, 1, 2] rfl ?_
      exact he _ _ hf
    · replace hf := if_2 hc hf
      refine j_iconst hK (0 : Int32) dX10_listens_33 ic_0 ?_
      refine j_istore hK (L' := [(4, .int (0 : Int32)), (0, .ref 0), (1, .int v.1), (2, .int v.2.1), (3, .int v.2.2)]) dX10_listens_34 (by decide) rfl ?_
      refine j_sub [1, 2, 3, 4, 0] rfl ?_
      refine t_X10_listens_36 hK hA  (fun v5 S6 hf => ?_) _ _ _ hf
      refine j_iinc hK (L' := [(3, .int (v.2.2 + (1 : Int32))), (0, .ref 0), (1, .int v5.1), (2, .int v5.2.1)]) dX10_listens_78 3 rfl (congrArg (fun y => v.2.2 + y) ic_1) (by decide) rfl ?_
      refine j_goto hK 27 dX10_listens_81 (by decide) ?_
      refine j_sub [1, 2, 3, 0] rfl ?_
      exact hk _ _ hf)
def f_X10_listens (S : St) : Option (Int32 × St) := bd (f_X3_findFitting S) (fun r7 S8 => (if (gI S8 104 5) = 0 then some ((-2 : Int32), S8) else lp (f_X10_listens_27b  (fun v10 S11 => bd (f_X5_begin S11) (fun r12 S13 => bd (f_X5_put v10.2.1.toInt64 S13) (fun r15 S16 => some (v10.1, S16))))) FU ((-1 : Int32), (65 : Int32), (0 : Int32)) S8))
theorem c_X10_listens {S : St} {r : Int32} {S' : St} (hf : f_X10_listens S = some (r, S')) : zM yX10_listens cX10_listens 6 4 (some .int) [.ref 0] S (some (.int r)) S' := by
  refine zM_of (zpl (by decide)) (Nat.le_of_ble_eq_true rfl) rfl (fun K hK hA => ?_)
  unfold f_X10_listens at hf
  refine j_aload_n hK dX10_listens_0 0 rfl rfl ?_
  refine j_getR hK fl_X10_63 dX10_listens_1 zo_0 zf_10_7 zr_0_7 ?_
  obtain ⟨r7, S8, h9, hf⟩ := bd_J hf
  refine k_callVv hK (c_X3_findFitting h9) dX10_listens_4 zclX3 zo_104 ml_X10_353 mi_X3_findFitting mx_X3_findFitting in_X3 mc_X3_findFitting hy_X3_findFitting ⟨by decide, by decide⟩ rfl (Nat.le_of_ble_eq_true rfl) ?_
  refine j_aload_n hK dX10_listens_7 0 rfl rfl ?_
  refine j_getR hK fl_X10_63 dX10_listens_8 zo_0 zf_10_7 zr_0_7 ?_
  refine j_getI hK fl_X10_356 dX10_listens_11 zo_104 zf_3_5 ?_
  refine j_if_ne hK 20 dX10_listens_14 (by decide) (fun hc => ?_) (fun hc => ?_)
  · replace hf := if_2 hc hf
    refine j_iconst hK (-1 : Int32) dX10_listens_20 ic_m1 ?_
    refine j_istore_n hK (L' := [(1, .int (-1 : Int32)), (0, .ref 0)]) dX10_listens_21 rfl (by decide) rfl ?_
    refine j_bipush hK (65 : Int32) dX10_listens_22 bi_65 ?_
    refine j_istore_n hK (L' := [(2, .int (65 : Int32)), (1, .int (-1 : Int32)), (0, .ref 0)]) dX10_listens_24 rfl (by decide) rfl ?_
    refine j_iconst hK (0 : Int32) dX10_listens_25 ic_0 ?_
    refine j_istore_n hK (L' := [(3, .int (0 : Int32)), (2, .int (65 : Int32)), (1, .int (-1 : Int32)), (0, .ref 0)]) dX10_listens_26 rfl (by decide) rfl ?_
    refine j_sub [3, 2, 1, 0] rfl ?_
    refine t_X10_listens_27 hK hA  (fun v10 S11 hf => ?_) _ _ _ hf
    refine j_aload_n hK dX10_listens_84 0 rfl rfl ?_
    refine j_getR hK fl_X10_26 dX10_listens_85 zo_0 zf_10_2 zr_0_2 ?_
    obtain ⟨r12, S13, h14, hf⟩ := bd_J hf
    refine k_callVv hK (c_X5_begin h14) dX10_listens_88 zclX5 zo_10 ml_X10_185 mi_X5_begin mx_X5_begin in_X5 mc_X5_begin hy_X5_begin ⟨by decide, by decide⟩ rfl (Nat.le_of_ble_eq_true rfl) ?_
    refine j_aload_n hK dX10_listens_91 0 rfl rfl ?_
    refine j_getR hK fl_X10_26 dX10_listens_92 zo_0 zf_10_2 zr_0_2 ?_
    refine j_iload_n hK dX10_listens_95 2 rfl rfl ?_
    refine j_i2l hK dX10_listens_96 ?_
    refine j_pc (pc' := 97) rfl ?_
    obtain ⟨r15, S16, h17, hf⟩ := bd_J hf
    refine k_callVv hK (c_X5_put h17) dX10_listens_97 zclX5 zo_10 ml_X10_191 mi_X5_put mx_X5_put in_X5 mc_X5_put hy_X5_put ⟨by decide, by decide⟩ rfl (Nat.le_of_ble_eq_true rfl) ?_
    refine j_iload_n hK dX10_listens_100 1 rfl rfl ?_
    exact j_iret hK dX10_listens_101 rfl (rt_I hA hf)
  · replace hf := if_1 hc hf
    refine j_bipush hK (-2 : Int32) dX10_listens_17 bi_m2 ?_
    exact j_iret hK dX10_listens_19 rfl (rt_I hA hf)
def f_X2_spread_85b (ru : Nat) (x3 : Int32) (x4 : Int64) (x6 : Int32) (e : Int32 → St → Option (Int64 × St)) (k : Int32 → St → Option (Int64 × St)) (v : Int32) (S : St) : Option (Int64 × St) := (if (8 : Int32) ≤ v then e v S else if inb x6 12 then if inb x6 12 then bd (f_X6_changed ru (gI S 93 x6.toNatClampNeg) (gI S 94 x6.toNatClampNeg) (0 : Int32) v S) (fun r3 S4 => if inb r3 8 then if inb v 8 then lt ((gL S4 97 r3.toNatClampNeg) + ((gL S4 96 v.toNatClampNeg) * ((10 : Int32) - x3).toInt64)) (fun y8 => if inb r3 8 then lt (sL S4 97 r3.toNatClampNeg y8) (fun S10 => k (v + (1 : Int32)) S10) else none) else none else none) else none else none)
theorem t_X2_spread_85 {K : CT} (hK : KO K cX2_spread RX2 8 4 (some .long)) {r : Int64} {S' : St} (hA : zans K (some (.long r), S')) {ru : Nat} (hru : isRule ru) {x3 : Int32} {x4 : Int64} {x6 : Int32} {e : Int32 → St → Option (Int64 × St)} (he : ∀ (v : Int32) (S : St), e v S = some (r, S') → J K 147 [(0, .ref 92), (1, .ref ru), (3, .int x3), (4, .long x4), (6, .int x6)] [] S) : ∀ (n : Nat) (v : Int32) (S : St), lp (f_X2_spread_85b ru x3 x4 x6 e) n v S = some (r, S') → J K 85 [(0, .ref 92), (1, .ref ru), (3, .int x3), (4, .long x4), (6, .int x6), (7, .int v)] [] S :=
  lp_J (P := fun (v : Int32) (S : St) => J K 85 [(0, .ref 92), (1, .ref ru), (3, .int x3), (4, .long x4), (6, .int x6), (7, .int v)] [] S) (fun k hk v S hf => by
    unfold f_X2_spread_85b at hf
    refine j_iload hK dX2_spread_85 5 rfl ?_
    refine j_bipush hK (8 : Int32) dX2_spread_87 bi_8 ?_
    refine j_icmp_ge hK 147 dX2_spread_89 (by decide) (fun hc => ?_) (fun hc => ?_)
    · replace hf := if_1 hc hf
      refine j_sub [0, 1, 2, 3, 4] rfl ?_
      exact he _ _ hf
    · replace hf := if_2 hc hf
      refine j_aload_n hK dX2_spread_92 0 rfl rfl ?_
      refine j_getR hK fl_X2_39 dX2_spread_93 zo_92 zf_2_8 zr_92_8 ?_
      refine j_aload_n hK dX2_spread_96 1 rfl rfl ?_
      refine j_aload_n hK dX2_spread_97 0 rfl rfl ?_
      refine j_getR hK fl_X2_9 dX2_spread_98 zo_92 zf_2_0 zr_92_0 ?_
      refine j_getR hK fl_X2_55 dX2_spread_101 zo_3 zf_0_3 zr_3_3 ?_
      refine j_aload_n hK dX2_spread_104 0 rfl rfl ?_
      refine j_pc (pc' := 105) rfl ?_
      refine j_getR hK fl_X2_15 dX2_spread_105 zo_92 zf_2_1 zr_92_1 ?_
      refine j_iload hK dX2_spread_108 4 rfl ?_
      obtain ⟨hi1, hf⟩ := gd hf
      refine k_iald hK dX2_spread_110 zb_93 hi1 rfl ?_
      refine j_aload_n hK dX2_spread_111 0 rfl rfl ?_
      refine j_getR hK fl_X2_19 dX2_spread_112 zo_92 zf_2_2 zr_92_2 ?_
      refine j_iload hK dX2_spread_115 4 rfl ?_
      obtain ⟨hi2, hf⟩ := gd hf
      refine k_iald hK dX2_spread_117 zb_94 hi2 rfl ?_
      refine j_iconst hK (0 : Int32) dX2_spread_118 ic_0 ?_
      refine j_pc (pc' := 119) rfl ?_
      refine j_iload hK dX2_spread_119 5 rfl ?_
      obtain ⟨r3, S4, h5, hf⟩ := bd_J hf
      refine k_callVi hK (c_X6_changed hru h5) dX2_spread_121 zclX6 (ru_o hru) ml_X2_86 mi_X6_changed mx_X6_changed in_X6 mc_X6_changed hy_X6_changed ⟨by decide, by decide⟩ rfl (Nat.le_of_ble_eq_true rfl) ?_
      refine j_dup2 hK dX2_spread_124 rfl rfl ?_
      obtain ⟨hi6, hf⟩ := gd hf
      refine k_lald hK dX2_spread_125 zb_97 hi6 rfl ?_
      refine j_aload_n hK dX2_spread_126 0 rfl rfl ?_
      refine j_getR hK fl_X2_35 dX2_spread_127 zo_92 zf_2_7 zr_92_7 ?_
      refine j_iload hK dX2_spread_130 5 rfl ?_
      obtain ⟨hi7, hf⟩ := gd hf
      refine k_lald hK dX2_spread_132 zb_96 hi7 rfl ?_
      refine j_pc (pc' := 133) rfl ?_
      refine j_bipush hK (10 : Int32) dX2_spread_133 bi_10 ?_
      refine j_iload_n hK dX2_spread_135 2 rfl rfl ?_
      refine j_isub hK dX2_spread_136 ?_
      refine j_i2l hK dX2_spread_137 ?_
      refine j_lmul hK dX2_spread_138 ?_
      refine j_ladd hK dX2_spread_139 ?_
      refine lt_L hf (fun y8 hf => ?_)
      obtain ⟨hi9, hf⟩ := gd hf
      refine k_last hK dX2_spread_140 zb_97 hi9 rfl ?_
      refine lt_S hf (fun S10 hf => ?_)
      refine j_iinc hK (L' := [(7, .int (v + (1 : Int32))), (0, .ref 92), (1, .ref ru), (3, .int x3), (4, .long x4), (6, .int x6)]) dX2_spread_141 5 rfl (congrArg (fun y => v + y) ic_1) (by decide) rfl ?_
      refine j_pc (pc' := 144) rfl ?_
      refine j_goto hK 85 dX2_spread_144 (by decide) ?_
      refine j_sub [1, 2, 3, 4, 5, 0] rfl ?_
      exact hk _ _ hf)
def f_X2_spread_52b (ru : Nat) (x3 : Int32) (x4 : Int64) (x6 : Int32) (e : Int32 → St → Option (Int64 × St)) (k : Int32 → St → Option (Int64 × St)) (v : Int32) (S : St) : Option (Int64 × St) := (if (8 : Int32) ≤ v then e v S else if inb v 8 then if inb v 8 then lt (sL S 97 v.toNatClampNeg ((gL S 96 v.toNatClampNeg) * x3.toInt64)) (fun S13 => k (v + (1 : Int32)) S13) else none else none)
theorem t_X2_spread_52 {K : CT} (hK : KO K cX2_spread RX2 8 4 (some .long)) {r : Int64} {S' : St} (hA : zans K (some (.long r), S')) {ru : Nat} (hru : isRule ru) {x3 : Int32} {x4 : Int64} {x6 : Int32} {e : Int32 → St → Option (Int64 × St)} (he : ∀ (v : Int32) (S : St), e v S = some (r, S') → J K 82 [(0, .ref 92), (1, .ref ru), (3, .int x3), (4, .long x4), (6, .int x6)] [] S) : ∀ (n : Nat) (v : Int32) (S : St), lp (f_X2_spread_52b ru x3 x4 x6 e) n v S = some (r, S') → J K 52 [(0, .ref 92), (1, .ref ru), (3, .int x3), (4, .long x4), (6, .int x6), (7, .int v)] [] S :=
  lp_J (P := fun (v : Int32) (S : St) => J K 52 [(0, .ref 92), (1, .ref ru), (3, .int x3), (4, .long x4), (6, .int x6), (7, .int v)] [] S) (fun k hk v S hf => by
    unfold f_X2_spread_52b at hf
    refine j_iload hK dX2_spread_52 5 rfl ?_
    refine j_bipush hK (8 : Int32) dX2_spread_54 bi_8 ?_
    refine j_icmp_ge hK 82 dX2_spread_56 (by decide) (fun hc => ?_) (fun hc => ?_)
    · replace hf := if_1 hc hf
      refine j_sub [0, 1, 2, 3, 4] rfl ?_
      exact he _ _ hf
    · replace hf := if_2 hc hf
      refine j_aload_n hK dX2_spread_59 0 rfl rfl ?_
      refine j_getR hK fl_X2_39 dX2_spread_60 zo_92 zf_2_8 zr_92_8 ?_
      refine j_iload hK dX2_spread_63 5 rfl ?_
      refine j_aload_n hK dX2_spread_65 0 rfl rfl ?_
      refine j_getR hK fl_X2_35 dX2_spread_66 zo_92 zf_2_7 zr_92_7 ?_
      refine j_iload hK dX2_spread_69 5 rfl ?_
      obtain ⟨hi11, hf⟩ := gd hf
      refine k_lald hK dX2_spread_71 zb_96 hi11 rfl ?_
      refine j_pc (pc' := 72) rfl ?_
      refine j_iload_n hK dX2_spread_72 2 rfl rfl ?_
      refine j_i2l hK dX2_spread_73 ?_
      refine j_lmul hK dX2_spread_74 ?_
      obtain ⟨hi12, hf⟩ := gd hf
      refine k_last hK dX2_spread_75 zb_97 hi12 rfl ?_
      refine lt_S hf (fun S13 hf => ?_)
      refine j_iinc hK (L' := [(7, .int (v + (1 : Int32))), (0, .ref 92), (1, .ref ru), (3, .int x3), (4, .long x4), (6, .int x6)]) dX2_spread_76 5 rfl (congrArg (fun y => v + y) ic_1) (by decide) rfl ?_
      refine j_goto hK 52 dX2_spread_79 (by decide) ?_
      refine j_sub [1, 2, 3, 4, 5, 0] rfl ?_
      exact hk _ _ hf)
def f_X2_spread_40b (ru : Nat) (x3 : Int32) (e : Int64 × Int32 → St → Option (Int64 × St)) (k : Int64 × Int32 → St → Option (Int64 × St)) (v : Int64 × Int32) (S : St) : Option (Int64 × St) := (if (gI S 92 3) ≤ v.2 then e (v.1, v.2) S else lp (f_X2_spread_52b ru x3 v.1 v.2 (fun v14 S15 => lp (f_X2_spread_85b ru x3 v.1 v.2 (fun v16 S17 => lt (sM S17 97 0 96 0 8) (fun S18 => lt (v.1 * (10 : Int64)) (fun y19 => k (y19, (v.2 + (1 : Int32))) S18)))) FU (0 : Int32) S15)) FU (0 : Int32) S)
theorem t_X2_spread_40 {K : CT} (hK : KO K cX2_spread RX2 8 4 (some .long)) {r : Int64} {S' : St} (hA : zans K (some (.long r), S')) {ru : Nat} (hru : isRule ru) {x3 : Int32} {e : Int64 × Int32 → St → Option (Int64 × St)} (he : ∀ (v : Int64 × Int32) (S : St), e v S = some (r, S') → J K 176 [(4, .long v.1)] [] S) : ∀ (n : Nat) (v : Int64 × Int32) (S : St), lp (f_X2_spread_40b ru x3 e) n v S = some (r, S') → J K 40 [(0, .ref 92), (1, .ref ru), (3, .int x3), (4, .long v.1), (6, .int v.2)] [] S :=
  lp_J (P := fun (v : Int64 × Int32) (S : St) => J K 40 [(0, .ref 92), (1, .ref ru), (3, .int x3), (4, .long v.1), (6, .int v.2)] [] S) (fun k hk v S hf => by
    unfold f_X2_spread_40b at hf
    refine j_iload hK dX2_spread_40 4 rfl ?_
    refine j_aload_n hK dX2_spread_42 0 rfl rfl ?_
    refine j_getI hK fl_X2_22 dX2_spread_43 zo_92 zf_2_3 ?_
    refine j_icmp_ge hK 176 dX2_spread_46 (by decide) (fun hc => ?_) (fun hc => ?_)
    · replace hf := if_1 hc hf
      refine j_sub [3] rfl ?_
      exact he _ _ hf
    · replace hf := if_2 hc hf
      refine j_iconst hK (0 : Int32) dX2_spread_49 ic_0 ?_
      refine j_istore hK (L' := [(7, .int (0 : Int32)), (0, .ref 92), (1, .ref ru), (3, .int x3), (4, .long v.1), (6, .int v.2)]) dX2_spread_50 (by decide) rfl ?_
      refine j_sub [1, 2, 3, 4, 5, 0] rfl ?_
      refine t_X2_spread_52 hK hA hru (fun v14 S15 hf => ?_) _ _ _ hf
      refine j_iconst hK (0 : Int32) dX2_spread_82 ic_0 ?_
      refine j_istore hK (L' := [(7, .int (0 : Int32)), (0, .ref 92), (1, .ref ru), (3, .int x3), (4, .long v.1), (6, .int v.2)]) dX2_spread_83 (by decide) rfl ?_
      refine j_sub [1, 2, 3, 4, 5, 0] rfl ?_
      refine t_X2_spread_85 hK hA hru (fun v16 S17 hf => ?_) _ _ _ hf
      refine j_aload_n hK dX2_spread_147 0 rfl rfl ?_
      refine j_getR hK fl_X2_39 dX2_spread_148 zo_92 zf_2_8 zr_92_8 ?_
      refine j_iconst hK (0 : Int32) dX2_spread_151 ic_0 ?_
      refine j_aload_n hK dX2_spread_152 0 rfl rfl ?_
      refine j_getR hK fl_X2_35 dX2_spread_153 zo_92 zf_2_7 zr_92_7 ?_
      refine j_iconst hK (0 : Int32) dX2_spread_156 ic_0 ?_
      refine j_bipush hK (8 : Int32) dX2_spread_157 bi_8 ?_
      refine j_pc (pc' := 159) rfl ?_
      refine k_copyL hK ml_X2_103 dX2_spread_159 zb_97 zb_96 (by decide) (by decide) (by decide) (by decide) (by decide) tn_0 tn_0 tn_8 (by decide) (Nat.le_of_ble_eq_true rfl) ?_
      refine lt_S hf (fun S18 hf => ?_)
      refine j_lload hK dX2_spread_162 3 rfl ?_
      refine j_ldc2 hK (v := (10 : Int64)) cl_X2_109 dX2_spread_164 ?_
      refine j_lmul hK dX2_spread_167 ?_
      refine lt_L hf (fun y19 hf => ?_)
      refine j_lstore hK (L' := [(4, .long y19), (0, .ref 92), (1, .ref ru), (3, .int x3), (6, .int v.2)]) dX2_spread_168 (by decide) rfl ?_
      refine j_iinc hK (L' := [(6, .int (v.2 + (1 : Int32))), (4, .long y19), (0, .ref 92), (1, .ref ru), (3, .int x3)]) dX2_spread_170 4 rfl (congrArg (fun y => v.2 + y) ic_1) (by decide) rfl ?_
      refine j_goto hK 40 dX2_spread_173 (by decide) ?_
      refine j_sub [2, 3, 4, 1, 0] rfl ?_
      exact hk _ _ hf)
def f_X2_spread_27 (ru : Nat) (x2 : Int32) (x3 : Int32) (x4 : Int32) (s1 : Int32) (s2 : Int64) (k e : Int32 → St → Option (Int64 × St)) (S : St) : Option (Int64 × St) := if inb s1 8 then lt (sL S 96 s1.toNatClampNeg s2) (fun S21 => k (x4 + (1 : Int32)) S21) else none
theorem t_X2_spread_27 {K : CT} (hK : KO K cX2_spread RX2 8 4 (some .long)) {r : Int64} {S' : St} (hA : zans K (some (.long r), S')) {ru : Nat} (hru : isRule ru) {x2 : Int32} {x3 : Int32} {x4 : Int32} {s1 : Int32} {s2 : Int64} {k e : Int32 → St → Option (Int64 × St)} (hk : ∀ (v : Int32) (S : St), k v S = some (r, S') → J K 3 [(0, .ref 92), (1, .ref ru), (2, .int x2), (3, .int x3), (4, .int v)] [] S) (he : ∀ (v : Int32) (S : St), e v S = some (r, S') → J K 34 [(0, .ref 92), (1, .ref ru), (3, .int x3)] [] S) {S : St} (hf : f_X2_spread_27 ru x2 x3 x4 s1 s2 k e S = some (r, S')) : J K 27 [(0, .ref 92), (1, .ref ru), (2, .int x2), (3, .int x3), (4, .int x4)] [.long s2, .int s1, .ref 96] S := by
  unfold f_X2_spread_27 at hf
  obtain ⟨hi20, hf⟩ := gd hf
  refine k_last hK dX2_spread_27 zb_96 hi20 rfl ?_
  refine lt_S hf (fun S21 hf => ?_)
  refine j_iinc hK (L' := [(4, .int (x4 + (1 : Int32))), (0, .ref 92), (1, .ref ru), (2, .int x2), (3, .int x3)]) dX2_spread_28 4 rfl (congrArg (fun y => x4 + y) ic_1) (by decide) rfl ?_
  refine j_goto hK 3 dX2_spread_31 (by decide) ?_
  refine j_sub [1, 2, 3, 4, 0] rfl ?_
  exact hk _ _ hf
def f_X2_spread_3b (ru : Nat) (x2 : Int32) (x3 : Int32) (e : Int32 → St → Option (Int64 × St)) (k : Int32 → St → Option (Int64 × St)) (v : Int32) (S : St) : Option (Int64 × St) := (if (8 : Int32) ≤ v then e v S else (if v = x2 then f_X2_spread_27 ru x2 x3 v v (1 : Int64) k e S else f_X2_spread_27 ru x2 x3 v v (0 : Int64) k e S))
theorem t_X2_spread_3 {K : CT} (hK : KO K cX2_spread RX2 8 4 (some .long)) {r : Int64} {S' : St} (hA : zans K (some (.long r), S')) {ru : Nat} (hru : isRule ru) {x2 : Int32} {x3 : Int32} {e : Int32 → St → Option (Int64 × St)} (he : ∀ (v : Int32) (S : St), e v S = some (r, S') → J K 34 [(0, .ref 92), (1, .ref ru), (3, .int x3)] [] S) : ∀ (n : Nat) (v : Int32) (S : St), lp (f_X2_spread_3b ru x2 x3 e) n v S = some (r, S') → J K 3 [(0, .ref 92), (1, .ref ru), (2, .int x2), (3, .int x3), (4, .int v)] [] S :=
  lp_J (P := fun (v : Int32) (S : St) => J K 3 [(0, .ref 92), (1, .ref ru), (2, .int x2), (3, .int x3), (4, .int v)] [] S) (fun k hk v S hf => by
    unfold f_X2_spread_3b at hf
    refine j_iload hK dX2_spread_3 4 rfl ?_
    refine j_bipush hK (8 : Int32) dX2_spread_5 bi_8 ?_
    refine j_icmp_ge hK 34 dX2_spread_7 (by decide) (fun hc => ?_) (fun hc => ?_)
    · replace hf := if_1 hc hf
      refine j_sub [0, 1, 3] rfl ?_
      exact he _ _ hf
    · replace hf := if_2 hc hf
      refine j_aload_n hK dX2_spread_10 0 rfl rfl ?_
      refine j_getR hK fl_X2_35 dX2_spread_11 zo_92 zf_2_7 zr_92_7 ?_
      refine j_iload hK dX2_spread_14 4 rfl ?_
      refine j_iload hK dX2_spread_16 4 rfl ?_
      refine j_iload_n hK dX2_spread_18 2 rfl rfl ?_
      refine j_icmp_ne hK 26 dX2_spread_19 (by decide) (fun hc => ?_) (fun hc => ?_)
      · replace hf := if_2 hc hf
        refine j_lconst hK (0 : Int64) dX2_spread_26 lc_0 ?_
        exact t_X2_spread_27 hK hA hru hk he hf
      · replace hf := if_1 hc hf
        refine j_lconst hK (1 : Int64) dX2_spread_22 lc_1 ?_
        refine j_goto hK 27 dX2_spread_23 (by decide) ?_
        exact t_X2_spread_27 hK hA hru hk he hf)
def f_X2_spread (ru : Nat) (p2 : Int32) (p3 : Int32) (S : St) : Option (Int64 × St) := lp (f_X2_spread_3b ru p2 p3 (fun v22 S23 => lp (f_X2_spread_40b ru p3 (fun v24 S25 => some (v24.1, S25))) FU ((1 : Int64), (0 : Int32)) S23)) FU (0 : Int32) S
theorem c_X2_spread {ru : Nat} (hru : isRule ru) {p2 : Int32} {p3 : Int32} {S : St} {r : Int64} {S' : St} (hf : f_X2_spread ru p2 p3 S = some (r, S')) : zM yX2_spread cX2_spread 8 4 (some .long) [.ref 92, .ref ru, .int p2, .int p3] S (some (.long r)) S' := by
  refine zM_of (zpl (by decide)) (Nat.le_of_ble_eq_true rfl) rfl (fun K hK hA => ?_)
  unfold f_X2_spread at hf
  refine j_iconst hK (0 : Int32) dX2_spread_0 ic_0 ?_
  refine j_istore hK (L' := [(4, .int (0 : Int32)), (0, .ref 92), (1, .ref ru), (2, .int p2), (3, .int p3)]) dX2_spread_1 (by decide) rfl ?_
  refine j_sub [1, 2, 3, 4, 0] rfl ?_
  refine t_X2_spread_3 hK hA hru (fun v22 S23 hf => ?_) _ _ _ hf
  refine j_lconst hK (1 : Int64) dX2_spread_34 lc_1 ?_
  refine j_lstore hK (L' := [(4, .long (1 : Int64)), (0, .ref 92), (1, .ref ru), (3, .int p3)]) dX2_spread_35 (by decide) rfl ?_
  refine j_iconst hK (0 : Int32) dX2_spread_37 ic_0 ?_
  refine j_istore hK (L' := [(6, .int (0 : Int32)), (4, .long (1 : Int64)), (0, .ref 92), (1, .ref ru), (3, .int p3)]) dX2_spread_38 (by decide) rfl ?_
  refine j_sub [2, 3, 4, 1, 0] rfl ?_
  refine t_X2_spread_40 hK hA hru (fun v24 S25 hf => ?_) _ _ _ hf
  refine j_lload hK dX2_spread_176 0 rfl ?_
  exact j_lret hK dX2_spread_178 rfl (rt_L hA hf)
def f_X10_commonDivisor_9b (e : Int64 × Int64 × Int32 → St → Option (Int64 × St)) (k : Int64 × Int64 × Int32 → St → Option (Int64 × St)) (v : Int64 × Int64 × Int32) (S : St) : Option (Int64 × St) := (if (1000 : Int32) ≤ v.2.2 then e (v.1, v.2.1, v.2.2) S else (if (lg_cmp v.2.1 (0 : Int64)) = 0 then e (v.1, v.2.1, v.2.2) S else if ¬ v.2.1 = 0 then lt (v.1 - v.1 / v.2.1 * v.2.1) (fun y2 => k (v.2.1, y2, (v.2.2 + (1 : Int32))) S) else none))
theorem t_X10_commonDivisor_9 {K : CT} (hK : KO K cX10_commonDivisor RX10 11 1 (some .long)) {r : Int64} {S' : St} (hA : zans K (some (.long r), S')) {e : Int64 × Int64 × Int32 → St → Option (Int64 × St)} (he : ∀ (v : Int64 × Int64 × Int32) (S : St), e v S = some (r, S') → J K 45 [(4, .long v.1)] [] S) : ∀ (n : Nat) (v : Int64 × Int64 × Int32) (S : St), lp (f_X10_commonDivisor_9b  e) n v S = some (r, S') → J K 9 [(4, .long v.1), (6, .long v.2.1), (8, .int v.2.2)] [] S :=
  lp_J (P := fun (v : Int64 × Int64 × Int32) (S : St) => J K 9 [(4, .long v.1), (6, .long v.2.1), (8, .int v.2.2)] [] S) (fun k hk v S hf => by
    unfold f_X10_commonDivisor_9b at hf
    refine j_iload hK dX10_commonDivisor_9 2 rfl ?_
    refine j_sipush hK (1000 : Int32) dX10_commonDivisor_11 si_1000 ?_
    refine j_icmp_ge hK 45 dX10_commonDivisor_14 (by decide) (fun hc => ?_) (fun hc => ?_)
    · replace hf := if_1 hc hf
      refine j_sub [0] rfl ?_
      exact he _ _ hf
    · replace hf := if_2 hc hf
      refine j_lload hK dX10_commonDivisor_17 1 rfl ?_
      refine j_lconst hK (0 : Int64) dX10_commonDivisor_19 lc_0 ?_
      refine j_lcmp hK dX10_commonDivisor_20 ?_
      refine j_if_eq hK 45 dX10_commonDivisor_21 (by decide) (fun hc => ?_) (fun hc => ?_)
      · replace hf := if_1 hc hf
        refine j_sub [0] rfl ?_
        exact he _ _ hf
      · replace hf := if_2 hc hf
        refine j_lload hK dX10_commonDivisor_24 0 rfl ?_
        refine j_lload hK dX10_commonDivisor_26 1 rfl ?_
        obtain ⟨hn1, hf⟩ := gd hf
        refine j_lrem hK dX10_commonDivisor_28 hn1 ?_
        refine lt_L hf (fun y2 hf => ?_)
        refine j_lstore hK (L' := [(9, .long y2), (4, .long v.1), (6, .long v.2.1), (8, .int v.2.2)]) dX10_commonDivisor_29 (by decide) rfl ?_
        refine j_lload hK dX10_commonDivisor_31 2 rfl ?_
        refine j_lstore hK (L' := [(4, .long v.2.1), (9, .long y2), (6, .long v.2.1), (8, .int v.2.2)]) dX10_commonDivisor_33 (by decide) rfl ?_
        refine j_lload hK dX10_commonDivisor_35 1 rfl ?_
        refine j_pc (pc' := 37) rfl ?_
        refine j_lstore hK (L' := [(6, .long y2), (4, .long v.2.1), (9, .long y2), (8, .int v.2.2)]) dX10_commonDivisor_37 (by decide) rfl ?_
        refine j_iinc hK (L' := [(8, .int (v.2.2 + (1 : Int32))), (6, .long y2), (4, .long v.2.1), (9, .long y2)]) dX10_commonDivisor_39 3 rfl (congrArg (fun y => v.2.2 + y) ic_1) (by decide) rfl ?_
        refine j_goto hK 9 dX10_commonDivisor_42 (by decide) ?_
        refine j_sub [2, 1, 0] rfl ?_
        exact hk _ _ hf)
def f_X10_commonDivisor (p0 : Int64) (p2 : Int64) (S : St) : Option (Int64 × St) := lp (f_X10_commonDivisor_9b  (fun v3 S4 => (if (lg_cmp v3.1 (0 : Int64)) ≤ 0 then some ((1 : Int64), S4) else some (v3.1, S4)))) FU (p0, p2, (0 : Int32)) S
theorem c_X10_commonDivisor {p0 : Int64} {p2 : Int64} {S : St} {r : Int64} {S' : St} (hf : f_X10_commonDivisor p0 p2 S = some (r, S')) : zM yX10_commonDivisor cX10_commonDivisor 11 1 (some .long) [.long p0, .long p2] S (some (.long r)) S' := by
  refine zM_of (zpl (by decide)) (Nat.le_of_ble_eq_true rfl) rfl (fun K hK hA => ?_)
  unfold f_X10_commonDivisor at hf
  refine j_lload_n hK dX10_commonDivisor_0 0 rfl rfl ?_
  refine j_lstore hK (L' := [(4, .long p0), (0, .long p0), (2, .long p2)]) dX10_commonDivisor_1 (by decide) rfl ?_
  refine j_lload_n hK dX10_commonDivisor_3 2 rfl rfl ?_
  refine j_lstore hK (L' := [(6, .long p2), (4, .long p0), (0, .long p0), (2, .long p2)]) dX10_commonDivisor_4 (by decide) rfl ?_
  refine j_iconst hK (0 : Int32) dX10_commonDivisor_6 ic_0 ?_
  refine j_istore hK (L' := [(8, .int (0 : Int32)), (6, .long p2), (4, .long p0), (0, .long p0), (2, .long p2)]) dX10_commonDivisor_7 (by decide) rfl ?_
  refine j_sub [2, 1, 0] rfl ?_
  refine t_X10_commonDivisor_9 hK hA  (fun v3 S4 hf => ?_) _ _ _ hf
  refine j_lload hK dX10_commonDivisor_45 0 rfl ?_
  refine j_lconst hK (0 : Int64) dX10_commonDivisor_47 lc_0 ?_
  refine j_lcmp hK dX10_commonDivisor_48 ?_
  refine j_if_le hK 57 dX10_commonDivisor_49 (by decide) (fun hc => ?_) (fun hc => ?_)
  · replace hf := if_1 hc hf
    refine j_lconst hK (1 : Int64) dX10_commonDivisor_57 lc_1 ?_
    exact j_lret hK dX10_commonDivisor_58 rfl (rt_L hA hf)
  · replace hf := if_2 hc hf
    refine j_lload hK dX10_commonDivisor_52 0 rfl ?_
    refine j_goto hK 58 dX10_commonDivisor_54 (by decide) ?_
    exact j_lret hK dX10_commonDivisor_58 rfl (rt_L hA hf)
def f_X10_hints (p1 : Int32) (p2 : Int32) (p3 : Int32) (p4 : Int32) (p5 : Int32) (S : St) : Option (Int32 × St) := bd (f_X10_isLetter p3 S) (fun r1 S2 => (if r1 = 0 then some ((-1 : Int32), S2) else bd (f_X10_isLetter p4 S2) (fun r4 S5 => (if r4 = 0 then some ((-1 : Int32), S5) else (if p5 < 0 then some ((-1 : Int32), S5) else (if (10 : Int32) < p5 then some ((-1 : Int32), S5) else bd (f_X2_goes p1 p2 S5) (fun r7 S8 => (if r7 = 0 then some ((-1 : Int32), S8) else if isRule (gI S8 0 8).toNatClampNeg then bd (f_X2_spread (gI S8 0 8).toNatClampNeg p3 p5 S8) (fun r11 S12 => if inb p4 8 then lt (gL S12 96 p4.toNatClampNeg) (fun y15 => bd (f_X10_commonDivisor r11 y15 S12) (fun r16 S17 => bd (f_X5_begin S17) (fun r19 S20 => if ¬ r16 = 0 then bd (f_X5_put (y15 / r16) S20) (fun r23 S24 => if ¬ r16 = 0 then bd (f_X5_put (r11 / r16) S24) (fun r27 S28 => some ((0 : Int32), S28)) else none) else none))) else none) else none))))))))
theorem c_X10_hints {p1 : Int32} {p2 : Int32} {p3 : Int32} {p4 : Int32} {p5 : Int32} {S : St} {r : Int32} {S' : St} (hf : f_X10_hints p1 p2 p3 p4 p5 S = some (r, S')) : zM yX10_hints cX10_hints 12 5 (some .int) [.ref 0, .int p1, .int p2, .int p3, .int p4, .int p5] S (some (.int r)) S' := by
  refine zM_of (zpl (by decide)) (Nat.le_of_ble_eq_true rfl) rfl (fun K hK hA => ?_)
  unfold f_X10_hints at hf
  refine j_iload_n hK dX10_hints_0 3 rfl rfl ?_
  obtain ⟨r1, S2, h3, hf⟩ := bd_J hf
  refine k_callSi hK (c_X10_isLetter h3) dX10_hints_1 ml_X10_365 ms_X10_isLetter in_X10 mc_X10_isLetter hy_X10_isLetter ⟨by decide, by decide⟩ rfl (Nat.le_of_ble_eq_true rfl) ?_
  refine j_if_eq hK 39 dX10_hints_4 (by decide) (fun hc => ?_) (fun hc => ?_)
  · replace hf := if_1 hc hf
    refine j_iconst hK (-1 : Int32) dX10_hints_39 ic_m1 ?_
    exact j_iret hK dX10_hints_40 rfl (rt_I hA hf)
  · replace hf := if_2 hc hf
    refine j_iload hK dX10_hints_7 4 rfl ?_
    obtain ⟨r4, S5, h6, hf⟩ := bd_J hf
    refine k_callSi hK (c_X10_isLetter h6) dX10_hints_9 ml_X10_365 ms_X10_isLetter in_X10 mc_X10_isLetter hy_X10_isLetter ⟨by decide, by decide⟩ rfl (Nat.le_of_ble_eq_true rfl) ?_
    refine j_if_eq hK 39 dX10_hints_12 (by decide) (fun hc => ?_) (fun hc => ?_)
    · replace hf := if_1 hc hf
      refine j_iconst hK (-1 : Int32) dX10_hints_39 ic_m1 ?_
      exact j_iret hK dX10_hints_40 rfl (rt_I hA hf)
    · replace hf := if_2 hc hf
      refine j_iload hK dX10_hints_15 5 rfl ?_
      refine j_if_lt hK 39 dX10_hints_17 (by decide) (fun hc => ?_) (fun hc => ?_)
      · replace hf := if_1 hc hf
        refine j_iconst hK (-1 : Int32) dX10_hints_39 ic_m1 ?_
        exact j_iret hK dX10_hints_40 rfl (rt_I hA hf)
      · replace hf := if_2 hc hf
        refine j_iload hK dX10_hints_20 5 rfl ?_
        refine j_bipush hK (10 : Int32) dX10_hints_22 bi_10 ?_
        refine j_icmp_gt hK 39 dX10_hints_24 (by decide) (fun hc => ?_) (fun hc => ?_)
        · replace hf := if_1 hc hf
          refine j_iconst hK (-1 : Int32) dX10_hints_39 ic_m1 ?_
          exact j_iret hK dX10_hints_40 rfl (rt_I hA hf)
        · replace hf := if_2 hc hf
          refine j_aload_n hK dX10_hints_27 0 rfl rfl ?_
          refine j_getR hK fl_X10_42 dX10_hints_28 zo_0 zf_10_4 zr_0_4 ?_
          refine j_iload_n hK dX10_hints_31 1 rfl rfl ?_
          refine j_iload_n hK dX10_hints_32 2 rfl rfl ?_
          obtain ⟨r7, S8, h9, hf⟩ := bd_J hf
          refine k_callVi hK (c_X2_goes h9) dX10_hints_33 zclX2 zo_92 ml_X10_236 mi_X2_goes mx_X2_goes in_X2 mc_X2_goes hy_X2_goes ⟨by decide, by decide⟩ rfl (Nat.le_of_ble_eq_true rfl) ?_
          refine j_if_ne hK 41 dX10_hints_36 (by decide) (fun hc => ?_) (fun hc => ?_)
          · replace hf := if_2 hc hf
            refine j_aload_n hK dX10_hints_41 0 rfl rfl ?_
            refine j_getR hK fl_X10_42 dX10_hints_42 zo_0 zf_10_4 zr_0_4 ?_
            refine j_aload_n hK dX10_hints_45 0 rfl rfl ?_
            obtain ⟨hr10, hf⟩ := gd hf
            refine j_getD hK fl_X10_70 dX10_hints_46 zo_0 zf_10_8 ?_
            refine j_iload_n hK dX10_hints_49 3 rfl rfl ?_
            refine j_iload hK dX10_hints_50 5 rfl ?_
            obtain ⟨r11, S12, h13, hf⟩ := bd_J hf
            refine k_callVl hK (c_X2_spread hr10 h13) dX10_hints_52 zclX2 zo_92 ml_X10_368 mi_X2_spread mx_X2_spread in_X2 mc_X2_spread hy_X2_spread ⟨by decide, by decide⟩ rfl (Nat.le_of_ble_eq_true rfl) ?_
            refine j_pc (pc' := 55) rfl ?_
            refine j_lstore hK (L' := [(6, .long r11), (0, .ref 0), (1, .int p1), (2, .int p2), (3, .int p3), (4, .int p4), (5, .int p5)]) dX10_hints_55 (by decide) rfl ?_
            refine j_aload_n hK dX10_hints_57 1 rfl rfl ?_
            refine j_getR hK fl_X10_42 dX10_hints_58 zo_0 zf_10_4 zr_0_4 ?_
            refine j_getR hK fl_X10_372 dX10_hints_61 zo_92 zf_2_7 zr_92_7 ?_
            refine j_iload hK dX10_hints_64 5 rfl ?_
            obtain ⟨hi14, hf⟩ := gd hf
            refine k_lald hK dX10_hints_66 zb_96 hi14 rfl ?_
            refine lt_L hf (fun y15 hf => ?_)
            refine j_lstore hK (L' := [(8, .long y15), (6, .long r11), (0, .ref 0), (1, .int p1), (2, .int p2), (3, .int p3), (4, .int p4), (5, .int p5)]) dX10_hints_67 (by decide) rfl ?_
            refine j_lload hK dX10_hints_69 1 rfl ?_
            refine j_pc (pc' := 71) rfl ?_
            refine j_lload hK dX10_hints_71 0 rfl ?_
            obtain ⟨r16, S17, h18, hf⟩ := bd_J hf
            refine k_callSl hK (c_X10_commonDivisor h18) dX10_hints_73 ml_X10_376 ms_X10_commonDivisor in_X10 mc_X10_commonDivisor hy_X10_commonDivisor ⟨by decide, by decide⟩ rfl (Nat.le_of_ble_eq_true rfl) ?_
            refine j_lstore hK (L' := [(10, .long r16), (8, .long y15), (6, .long r11), (0, .ref 0), (1, .int p1), (2, .int p2), (3, .int p3), (4, .int p4), (5, .int p5)]) dX10_hints_76 (by decide) rfl ?_
            refine j_aload_n hK dX10_hints_78 3 rfl rfl ?_
            refine j_getR hK fl_X10_26 dX10_hints_79 zo_0 zf_10_2 zr_0_2 ?_
            obtain ⟨r19, S20, h21, hf⟩ := bd_J hf
            refine k_callVv hK (c_X5_begin h21) dX10_hints_82 zclX5 zo_10 ml_X10_185 mi_X5_begin mx_X5_begin in_X5 mc_X5_begin hy_X5_begin ⟨by decide, by decide⟩ rfl (Nat.le_of_ble_eq_true rfl) ?_
            refine j_aload_n hK dX10_hints_85 3 rfl rfl ?_
            refine j_getR hK fl_X10_26 dX10_hints_86 zo_0 zf_10_2 zr_0_2 ?_
            refine j_pc (pc' := 89) rfl ?_
            refine j_lload hK dX10_hints_89 1 rfl ?_
            refine j_lload hK dX10_hints_91 0 rfl ?_
            obtain ⟨hn22, hf⟩ := gd hf
            refine j_ldiv hK dX10_hints_93 hn22 ?_
            obtain ⟨r23, S24, h25, hf⟩ := bd_J hf
            refine k_callVv hK (c_X5_put h25) dX10_hints_94 zclX5 zo_10 ml_X10_191 mi_X5_put mx_X5_put in_X5 mc_X5_put hy_X5_put ⟨by decide, by decide⟩ rfl (Nat.le_of_ble_eq_true rfl) ?_
            refine j_aload_n hK dX10_hints_97 3 rfl rfl ?_
            refine j_getR hK fl_X10_26 dX10_hints_98 zo_0 zf_10_2 zr_0_2 ?_
            refine j_lload hK dX10_hints_101 2 rfl ?_
            refine j_lload hK dX10_hints_103 0 rfl ?_
            refine j_pc (pc' := 105) rfl ?_
            obtain ⟨hn26, hf⟩ := gd hf
            refine j_ldiv hK dX10_hints_105 hn26 ?_
            obtain ⟨r27, S28, h29, hf⟩ := bd_J hf
            refine k_callVv hK (c_X5_put h29) dX10_hints_106 zclX5 zo_10 ml_X10_191 mi_X5_put mx_X5_put in_X5 mc_X5_put hy_X5_put ⟨by decide, by decide⟩ rfl (Nat.le_of_ble_eq_true rfl) ?_
            refine j_iconst hK (0 : Int32) dX10_hints_109 ic_0 ?_
            exact j_iret hK dX10_hints_110 rfl (rt_I hA hf)
          · replace hf := if_1 hc hf
            refine j_iconst hK (-1 : Int32) dX10_hints_39 ic_m1 ?_
            exact j_iret hK dX10_hints_40 rfl (rt_I hA hf)
def f_X10_goodMoves_41 (x1 : Int32) (x2 : Int32) (x3 : Int32) (x4 : Int32) (k e : Int32 × Int32 → St → Option (Int32 × St)) (S : St) : Option (Int32 × St) := k (x3, (x4 + (1 : Int32))) S
theorem t_X10_goodMoves_41 {K : CT} (hK : KO K cX10_goodMoves RX10 5 1 (some .int)) {r : Int32} {S' : St} (hA : zans K (some (.int r), S')) {x1 : Int32} {x2 : Int32} {x3 : Int32} {x4 : Int32} {k e : Int32 × Int32 → St → Option (Int32 × St)} (hk : ∀ (v : Int32 × Int32) (S : St), k v S = some (r, S') → J K 5 [(0, .ref 0), (1, .int x1), (2, .int x2), (3, .int v.1), (4, .int v.2)] [] S) (he : ∀ (v : Int32 × Int32) (S : St), e v S = some (r, S') → J K 47 [(3, .int v.1)] [] S) {S : St} (hf : f_X10_goodMoves_41 x1 x2 x3 x4 k e S = some (r, S')) : J K 41 [(0, .ref 0), (1, .int x1), (2, .int x2), (3, .int x3), (4, .int x4)] [] S := by
  unfold f_X10_goodMoves_41 at hf
  refine j_iinc hK (L' := [(4, .int (x4 + (1 : Int32))), (0, .ref 0), (1, .int x1), (2, .int x2), (3, .int x3)]) dX10_goodMoves_41 4 rfl (congrArg (fun y => x4 + y) ic_1) (by decide) rfl ?_
  refine j_goto hK 5 dX10_goodMoves_44 (by decide) ?_
  refine j_sub [1, 2, 3, 4, 0] rfl ?_
  exact hk _ _ hf
def f_X10_goodMoves_5b (x1 : Int32) (x2 : Int32) (e : Int32 × Int32 → St → Option (Int32 × St)) (k : Int32 × Int32 → St → Option (Int32 × St)) (v : Int32 × Int32) (S : St) : Option (Int32 × St) := (if x2 < v.2 then e (v.1, v.2) S else (if x1 < v.2 then e (v.1, v.2) S else if inb (x1 - v.2) 61 then lt (((gI S 121 (x1 - v.2).toNatClampNeg) >>> (v.2 &&& 31)) &&& (1 : Int32)) (fun y2 => (if y2 = 0 then lt (v.1 ||| ((1 : Int32) <<< (v.2 &&& 31))) (fun y3 => f_X10_goodMoves_41 x1 x2 y3 v.2 k e S) else f_X10_goodMoves_41 x1 x2 v.1 v.2 k e S)) else none))
theorem t_X10_goodMoves_5 {K : CT} (hK : KO K cX10_goodMoves RX10 5 1 (some .int)) {r : Int32} {S' : St} (hA : zans K (some (.int r), S')) {x1 : Int32} {x2 : Int32} {e : Int32 × Int32 → St → Option (Int32 × St)} (he : ∀ (v : Int32 × Int32) (S : St), e v S = some (r, S') → J K 47 [(3, .int v.1)] [] S) : ∀ (n : Nat) (v : Int32 × Int32) (S : St), lp (f_X10_goodMoves_5b x1 x2 e) n v S = some (r, S') → J K 5 [(0, .ref 0), (1, .int x1), (2, .int x2), (3, .int v.1), (4, .int v.2)] [] S :=
  lp_J (P := fun (v : Int32 × Int32) (S : St) => J K 5 [(0, .ref 0), (1, .int x1), (2, .int x2), (3, .int v.1), (4, .int v.2)] [] S) (fun k hk v S hf => by
    unfold f_X10_goodMoves_5b at hf
    refine j_iload hK dX10_goodMoves_5 4 rfl ?_
    refine j_iload_n hK dX10_goodMoves_7 2 rfl rfl ?_
    refine j_icmp_gt hK 47 dX10_goodMoves_8 (by decide) (fun hc => ?_) (fun hc => ?_)
    · replace hf := if_1 hc hf
      refine j_sub [3] rfl ?_
      exact he _ _ hf
    · replace hf := if_2 hc hf
      refine j_iload hK dX10_goodMoves_11 4 rfl ?_
      refine j_iload_n hK dX10_goodMoves_13 1 rfl rfl ?_
      refine j_icmp_gt hK 47 dX10_goodMoves_14 (by decide) (fun hc => ?_) (fun hc => ?_)
      · replace hf := if_1 hc hf
        refine j_sub [3] rfl ?_
        exact he _ _ hf
      · replace hf := if_2 hc hf
        refine j_aload_n hK dX10_goodMoves_17 0 rfl rfl ?_
        refine j_getR hK fl_X10_81 dX10_goodMoves_18 zo_0 zf_10_11 zr_0_11 ?_
        refine j_iload_n hK dX10_goodMoves_21 1 rfl rfl ?_
        refine j_iload hK dX10_goodMoves_22 4 rfl ?_
        refine j_isub hK dX10_goodMoves_24 ?_
        obtain ⟨hi1, hf⟩ := gd hf
        refine k_iald hK dX10_goodMoves_25 zb_121 hi1 rfl ?_
        refine j_iload hK dX10_goodMoves_26 4 rfl ?_
        refine j_pc (pc' := 28) rfl ?_
        refine j_ishr hK dX10_goodMoves_28 ?_
        refine j_iconst hK (1 : Int32) dX10_goodMoves_29 ic_1 ?_
        refine j_iand hK dX10_goodMoves_30 ?_
        refine lt_I hf (fun y2 hf => ?_)
        refine j_if_ne hK 41 dX10_goodMoves_31 (by decide) (fun hc => ?_) (fun hc => ?_)
        · replace hf := if_2 hc hf
          exact t_X10_goodMoves_41 hK hA hk he hf
        · replace hf := if_1 hc hf
          refine j_iload_n hK dX10_goodMoves_34 3 rfl rfl ?_
          refine j_iconst hK (1 : Int32) dX10_goodMoves_35 ic_1 ?_
          refine j_iload hK dX10_goodMoves_36 4 rfl ?_
          refine j_ishl hK dX10_goodMoves_38 ?_
          refine j_ior hK dX10_goodMoves_39 ?_
          refine lt_I hf (fun y3 hf => ?_)
          refine j_istore_n hK (L' := [(3, .int y3), (0, .ref 0), (1, .int x1), (2, .int x2), (4, .int v.2)]) dX10_goodMoves_40 rfl (by decide) rfl ?_
          refine j_sub [1, 2, 3, 0, 4] rfl ?_
          exact t_X10_goodMoves_41 hK hA hk he hf)
def f_X10_goodMoves (p1 : Int32) (p2 : Int32) (S : St) : Option (Int32 × St) := lp (f_X10_goodMoves_5b p1 p2 (fun v4 S5 => some (v4.1, S5))) FU ((0 : Int32), (1 : Int32)) S
theorem c_X10_goodMoves {p1 : Int32} {p2 : Int32} {S : St} {r : Int32} {S' : St} (hf : f_X10_goodMoves p1 p2 S = some (r, S')) : zM yX10_goodMoves cX10_goodMoves 5 1 (some .int) [.ref 0, .int p1, .int p2] S (some (.int r)) S' := by
  refine zM_of (zpl (by decide)) (Nat.le_of_ble_eq_true rfl) rfl (fun K hK hA => ?_)
  unfold f_X10_goodMoves at hf
  refine j_iconst hK (0 : Int32) dX10_goodMoves_0 ic_0 ?_
  refine j_istore_n hK (L' := [(3, .int (0 : Int32)), (0, .ref 0), (1, .int p1), (2, .int p2)]) dX10_goodMoves_1 rfl (by decide) rfl ?_
  refine j_iconst hK (1 : Int32) dX10_goodMoves_2 ic_1 ?_
  refine j_istore hK (L' := [(4, .int (1 : Int32)), (3, .int (0 : Int32)), (0, .ref 0), (1, .int p1), (2, .int p2)]) dX10_goodMoves_3 (by decide) rfl ?_
  refine j_sub [2, 3, 4, 1, 0] rfl ?_
  refine t_X10_goodMoves_5 hK hA  (fun v4 S5 hf => ?_) _ _ _ hf
  refine j_iload_n hK dX10_goodMoves_47 0 rfl rfl ?_
  exact j_iret hK dX10_goodMoves_48 rfl (rt_I hA hf)
def f_X10_winsBehind_55 (x1 : Int32) (x2 : Int32) (x3 : Int32) (x4 : Int32) (x5 : Int32) (k e : Int32 × Int32 → St → Option (Int32 × St)) (S : St) : Option (Int32 × St) := k (x4, (x5 + (1 : Int32))) S
theorem t_X10_winsBehind_55 {K : CT} (hK : KO K cX10_winsBehind RX10 7 1 (some .int)) {r : Int32} {S' : St} (hA : zans K (some (.int r), S')) {x1 : Int32} {x2 : Int32} {x3 : Int32} {x4 : Int32} {x5 : Int32} {k e : Int32 × Int32 → St → Option (Int32 × St)} (hk : ∀ (v : Int32 × Int32) (S : St), k v S = some (r, S') → J K 18 [(1, .int x1), (2, .int x2), (3, .int x3), (4, .int v.1), (5, .int v.2)] [] S) (he : ∀ (v : Int32 × Int32) (S : St), e v S = some (r, S') → J K 61 [(4, .int v.1)] [] S) {S : St} (hf : f_X10_winsBehind_55 x1 x2 x3 x4 x5 k e S = some (r, S')) : J K 55 [(1, .int x1), (2, .int x2), (3, .int x3), (4, .int x4), (5, .int x5)] [] S := by
  unfold f_X10_winsBehind_55 at hf
  refine j_iinc hK (L' := [(5, .int (x5 + (1 : Int32))), (1, .int x1), (2, .int x2), (3, .int x3), (4, .int x4)]) dX10_winsBehind_55 4 rfl (congrArg (fun y => x5 + y) ic_1) (by decide) rfl ?_
  refine j_goto hK 18 dX10_winsBehind_58 (by decide) ?_
  refine j_sub [1, 2, 3, 4, 0] rfl ?_
  exact hk _ _ hf
def f_X10_winsBehind_46 (x1 : Int32) (x2 : Int32) (x3 : Int32) (x4 : Int32) (x5 : Int32) (k e : Int32 × Int32 → St → Option (Int32 × St)) (S : St) : Option (Int32 × St) := lt (x4 ||| ((1 : Int32) <<< (x5 &&& 31))) (fun y1 => f_X10_winsBehind_55 x1 x2 x3 y1 x5 k e S)
theorem t_X10_winsBehind_46 {K : CT} (hK : KO K cX10_winsBehind RX10 7 1 (some .int)) {r : Int32} {S' : St} (hA : zans K (some (.int r), S')) {x1 : Int32} {x2 : Int32} {x3 : Int32} {x4 : Int32} {x5 : Int32} {k e : Int32 × Int32 → St → Option (Int32 × St)} (hk : ∀ (v : Int32 × Int32) (S : St), k v S = some (r, S') → J K 18 [(1, .int x1), (2, .int x2), (3, .int x3), (4, .int v.1), (5, .int v.2)] [] S) (he : ∀ (v : Int32 × Int32) (S : St), e v S = some (r, S') → J K 61 [(4, .int v.1)] [] S) {S : St} (hf : f_X10_winsBehind_46 x1 x2 x3 x4 x5 k e S = some (r, S')) : J K 46 [(1, .int x1), (2, .int x2), (3, .int x3), (4, .int x4), (5, .int x5)] [] S := by
  unfold f_X10_winsBehind_46 at hf
  refine j_iload hK dX10_winsBehind_46 3 rfl ?_
  refine j_iconst hK (1 : Int32) dX10_winsBehind_48 ic_1 ?_
  refine j_iload hK dX10_winsBehind_49 4 rfl ?_
  refine j_ishl hK dX10_winsBehind_51 ?_
  refine j_ior hK dX10_winsBehind_52 ?_
  refine lt_I hf (fun y1 hf => ?_)
  refine j_istore hK (L' := [(4, .int y1), (1, .int x1), (2, .int x2), (3, .int x3), (5, .int x5)]) dX10_winsBehind_53 (by decide) rfl ?_
  refine j_sub [1, 2, 3, 0, 4] rfl ?_
  exact t_X10_winsBehind_55 hK hA hk he hf
def f_X10_winsBehind_18b (x1 : Int32) (x2 : Int32) (x3 : Int32) (e : Int32 × Int32 → St → Option (Int32 × St)) (k : Int32 × Int32 → St → Option (Int32 × St)) (v : Int32 × Int32) (S : St) : Option (Int32 × St) := (if x1 < v.2 then e (v.1, v.2) S else lt (((1 : Int32) <<< (v.2 &&& 31)) ^^^ (-1 : Int32)) (fun y2 => (if (x2 &&& y2) = 0 then (if (x3 &&& y2) = 0 then f_X10_winsBehind_46 x1 x2 x3 v.1 v.2 k e S else f_X10_winsBehind_55 x1 x2 x3 v.1 v.2 k e S) else f_X10_winsBehind_46 x1 x2 x3 v.1 v.2 k e S)))
theorem t_X10_winsBehind_18 {K : CT} (hK : KO K cX10_winsBehind RX10 7 1 (some .int)) {r : Int32} {S' : St} (hA : zans K (some (.int r), S')) {x1 : Int32} {x2 : Int32} {x3 : Int32} {e : Int32 × Int32 → St → Option (Int32 × St)} (he : ∀ (v : Int32 × Int32) (S : St), e v S = some (r, S') → J K 61 [(4, .int v.1)] [] S) : ∀ (n : Nat) (v : Int32 × Int32) (S : St), lp (f_X10_winsBehind_18b x1 x2 x3 e) n v S = some (r, S') → J K 18 [(1, .int x1), (2, .int x2), (3, .int x3), (4, .int v.1), (5, .int v.2)] [] S :=
  lp_J (P := fun (v : Int32 × Int32) (S : St) => J K 18 [(1, .int x1), (2, .int x2), (3, .int x3), (4, .int v.1), (5, .int v.2)] [] S) (fun k hk v S hf => by
    unfold f_X10_winsBehind_18b at hf
    refine j_iload hK dX10_winsBehind_18 4 rfl ?_
    refine j_iload_n hK dX10_winsBehind_20 0 rfl rfl ?_
    refine j_icmp_gt hK 61 dX10_winsBehind_21 (by decide) (fun hc => ?_) (fun hc => ?_)
    · replace hf := if_1 hc hf
      refine j_sub [3] rfl ?_
      exact he _ _ hf
    · replace hf := if_2 hc hf
      refine j_iconst hK (1 : Int32) dX10_winsBehind_24 ic_1 ?_
      refine j_iload hK dX10_winsBehind_25 4 rfl ?_
      refine j_ishl hK dX10_winsBehind_27 ?_
      refine j_iconst hK (-1 : Int32) dX10_winsBehind_28 ic_m1 ?_
      refine j_ixor hK dX10_winsBehind_29 ?_
      refine lt_I hf (fun y2 hf => ?_)
      refine j_istore hK (L' := [(6, .int y2), (1, .int x1), (2, .int x2), (3, .int x3), (4, .int v.1), (5, .int v.2)]) dX10_winsBehind_30 (by decide) rfl ?_
      refine j_iload_n hK dX10_winsBehind_32 2 rfl rfl ?_
      refine j_pc (pc' := 33) rfl ?_
      refine j_iload hK dX10_winsBehind_33 0 rfl ?_
      refine j_iand hK dX10_winsBehind_35 ?_
      refine j_if_ne hK 46 dX10_winsBehind_36 (by decide) (fun hc => ?_) (fun hc => ?_)
      · replace hf := if_2 hc hf
        refine j_sub [1, 2, 3, 4, 5] rfl ?_
        exact t_X10_winsBehind_46 hK hA hk he hf
      · replace hf := if_1 hc hf
        refine j_iload_n hK dX10_winsBehind_39 3 rfl rfl ?_
        refine j_iload hK dX10_winsBehind_40 0 rfl ?_
        refine j_iand hK dX10_winsBehind_42 ?_
        refine j_if_ne hK 55 dX10_winsBehind_43 (by decide) (fun hc => ?_) (fun hc => ?_)
        · replace hf := if_2 hc hf
          refine j_sub [1, 2, 3, 4, 5] rfl ?_
          exact t_X10_winsBehind_55 hK hA hk he hf
        · replace hf := if_1 hc hf
          refine j_sub [1, 2, 3, 4, 5] rfl ?_
          exact t_X10_winsBehind_46 hK hA hk he hf)
def f_X10_winsBehind (p0 : Int32) (p1 : Int32) (p2 : Int32) (S : St) : Option (Int32 × St) := lt (((1 : Int32) <<< (((mnI p0 p1) + (1 : Int32)) &&& 31)) - (2 : Int32)) (fun y3 => lp (f_X10_winsBehind_18b p1 p2 y3 (fun v4 S5 => some (v4.1, S5))) FU ((0 : Int32), (0 : Int32)) S)
theorem c_X10_winsBehind {p0 : Int32} {p1 : Int32} {p2 : Int32} {S : St} {r : Int32} {S' : St} (hf : f_X10_winsBehind p0 p1 p2 S = some (r, S')) : zM yX10_winsBehind cX10_winsBehind 7 1 (some .int) [.int p0, .int p1, .int p2] S (some (.int r)) S' := by
  refine zM_of (zpl (by decide)) (Nat.le_of_ble_eq_true rfl) rfl (fun K hK hA => ?_)
  unfold f_X10_winsBehind at hf
  refine j_iconst hK (1 : Int32) dX10_winsBehind_0 ic_1 ?_
  refine j_iload_n hK dX10_winsBehind_1 0 rfl rfl ?_
  refine j_iload_n hK dX10_winsBehind_2 1 rfl rfl ?_
  refine j_min hK ml_X10_170 dX10_winsBehind_3 (by decide) (Nat.le_of_ble_eq_true rfl) ?_
  refine j_iconst hK (1 : Int32) dX10_winsBehind_6 ic_1 ?_
  refine j_iadd hK dX10_winsBehind_7 ?_
  refine j_ishl hK dX10_winsBehind_8 ?_
  refine j_iconst hK (2 : Int32) dX10_winsBehind_9 ic_2 ?_
  refine j_pc (pc' := 10) rfl ?_
  refine j_isub hK dX10_winsBehind_10 ?_
  refine lt_I hf (fun y3 hf => ?_)
  refine j_istore_n hK (L' := [(3, .int y3), (0, .int p0), (1, .int p1), (2, .int p2)]) dX10_winsBehind_11 rfl (by decide) rfl ?_
  refine j_iconst hK (0 : Int32) dX10_winsBehind_12 ic_0 ?_
  refine j_istore hK (L' := [(4, .int (0 : Int32)), (3, .int y3), (0, .int p0), (1, .int p1), (2, .int p2)]) dX10_winsBehind_13 (by decide) rfl ?_
  refine j_iconst hK (0 : Int32) dX10_winsBehind_15 ic_0 ?_
  refine j_istore hK (L' := [(5, .int (0 : Int32)), (4, .int (0 : Int32)), (3, .int y3), (0, .int p0), (1, .int p1), (2, .int p2)]) dX10_winsBehind_16 (by decide) rfl ?_
  refine j_sub [4, 5, 2, 1, 0] rfl ?_
  refine t_X10_winsBehind_18 hK hA  (fun v4 S5 hf => ?_) _ _ _ hf
  refine j_iload hK dX10_winsBehind_61 0 rfl ?_
  exact j_iret hK dX10_winsBehind_63 rfl (rt_I hA hf)
def f_X10_game_65b (x2 : Int32) (x3 : Int32) (e : Int32 → St → Option (Int32 × St)) (k : Int32 → St → Option (Int32 × St)) (v : Int32) (S : St) : Option (Int32 × St) := (if x2 < v then e v S else (if ((x3 >>> (v &&& 31)) &&& (1 : Int32)) = (1 : Int32) then some (v, S) else k (v + (1 : Int32)) S))
theorem t_X10_game_65 {K : CT} (hK : KO K cX10_game RX10 5 2 (some .int)) {r : Int32} {S' : St} (hA : zans K (some (.int r), S')) {x2 : Int32} {x3 : Int32} {e : Int32 → St → Option (Int32 × St)} (he : ∀ (v : Int32) (S : St), e v S = some (r, S') → J K 90 [] [] S) : ∀ (n : Nat) (v : Int32) (S : St), lp (f_X10_game_65b x2 x3 e) n v S = some (r, S') → J K 65 [(2, .int x2), (3, .int x3), (4, .int v)] [] S :=
  lp_J (P := fun (v : Int32) (S : St) => J K 65 [(2, .int x2), (3, .int x3), (4, .int v)] [] S) (fun k hk v S hf => by
    unfold f_X10_game_65b at hf
    refine j_iload hK dX10_game_65 2 rfl ?_
    refine j_iload_n hK dX10_game_67 0 rfl rfl ?_
    refine j_icmp_gt hK 90 dX10_game_68 (by decide) (fun hc => ?_) (fun hc => ?_)
    · replace hf := if_1 hc hf
      refine j_sub [] rfl ?_
      exact he _ _ hf
    · replace hf := if_2 hc hf
      refine j_iload_n hK dX10_game_71 1 rfl rfl ?_
      refine j_iload hK dX10_game_72 2 rfl ?_
      refine j_ishr hK dX10_game_74 ?_
      refine j_iconst hK (1 : Int32) dX10_game_75 ic_1 ?_
      refine j_iand hK dX10_game_76 ?_
      refine j_iconst hK (1 : Int32) dX10_game_77 ic_1 ?_
      refine j_icmp_ne hK 84 dX10_game_78 (by decide) (fun hc => ?_) (fun hc => ?_)
      · replace hf := if_2 hc hf
        refine j_iinc hK (L' := [(4, .int (v + (1 : Int32))), (2, .int x2), (3, .int x3)]) dX10_game_84 2 rfl (congrArg (fun y => v + y) ic_1) (by decide) rfl ?_
        refine j_goto hK 65 dX10_game_87 (by decide) ?_
        refine j_sub [1, 2, 0] rfl ?_
        exact hk _ _ hf
      · replace hf := if_1 hc hf
        refine j_iload hK dX10_game_81 2 rfl ?_
        exact j_iret hK dX10_game_83 rfl (rt_I hA hf))
def f_X10_game_28b (x1 : Int32) (x2 : Int32) (e : Int32 × Int32 → St → Option (Int32 × St)) (k : Int32 × Int32 → St → Option (Int32 × St)) (v : Int32 × Int32) (S : St) : Option (Int32 × St) := (if x1 < v.2 then e (v.1, v.2) S else bd (f_X10_goodMoves v.2 x2 S) (fun r1 S2 => bd (f_X10_winsBehind v.2 x2 r1 S2) (fun r4 S5 => if inb v.2 61 then lt (sI S5 121 v.2.toNatClampNeg r4) (fun S8 => k (r1, (v.2 + (1 : Int32))) S8) else none)))
theorem t_X10_game_28 {K : CT} (hK : KO K cX10_game RX10 5 2 (some .int)) {r : Int32} {S' : St} (hA : zans K (some (.int r), S')) {x1 : Int32} {x2 : Int32} {e : Int32 × Int32 → St → Option (Int32 × St)} (he : ∀ (v : Int32 × Int32) (S : St), e v S = some (r, S') → J K 62 [(2, .int x2), (3, .int v.1)] [] S) : ∀ (n : Nat) (v : Int32 × Int32) (S : St), lp (f_X10_game_28b x1 x2 e) n v S = some (r, S') → J K 28 [(0, .ref 0), (1, .int x1), (2, .int x2), (3, .int v.1), (4, .int v.2)] [] S :=
  lp_J (P := fun (v : Int32 × Int32) (S : St) => J K 28 [(0, .ref 0), (1, .int x1), (2, .int x2), (3, .int v.1), (4, .int v.2)] [] S) (fun k hk v S hf => by
    unfold f_X10_game_28b at hf
    refine j_iload hK dX10_game_28 4 rfl ?_
    refine j_iload_n hK dX10_game_30 1 rfl rfl ?_
    refine j_icmp_gt hK 62 dX10_game_31 (by decide) (fun hc => ?_) (fun hc => ?_)
    · replace hf := if_1 hc hf
      refine j_sub [2, 3] rfl ?_
      exact he _ _ hf
    · replace hf := if_2 hc hf
      refine j_aload_n hK dX10_game_34 0 rfl rfl ?_
      refine j_iload hK dX10_game_35 4 rfl ?_
      refine j_iload_n hK dX10_game_37 2 rfl rfl ?_
      obtain ⟨r1, S2, h3, hf⟩ := bd_J hf
      refine k_callVi hK (c_X10_goodMoves h3) dX10_game_38 zclX10 zo_0 ml_X10_380 mi_X10_goodMoves mx_X10_goodMoves in_X10 mc_X10_goodMoves hy_X10_goodMoves ⟨by decide, by decide⟩ rfl (Nat.le_of_ble_eq_true rfl) ?_
      refine j_istore_n hK (L' := [(3, .int r1), (0, .ref 0), (1, .int x1), (2, .int x2), (4, .int v.2)]) dX10_game_41 rfl (by decide) rfl ?_
      refine j_aload_n hK dX10_game_42 1 rfl rfl ?_
      refine j_getR hK fl_X10_81 dX10_game_43 zo_0 zf_10_11 zr_0_11 ?_
      refine j_pc (pc' := 46) rfl ?_
      refine j_iload hK dX10_game_46 4 rfl ?_
      refine j_iload hK dX10_game_48 4 rfl ?_
      refine j_iload_n hK dX10_game_50 3 rfl rfl ?_
      refine j_iload_n hK dX10_game_51 0 rfl rfl ?_
      obtain ⟨r4, S5, h6, hf⟩ := bd_J hf
      refine k_callSi hK (c_X10_winsBehind h6) dX10_game_52 ml_X10_383 ms_X10_winsBehind in_X10 mc_X10_winsBehind hy_X10_winsBehind ⟨by decide, by decide⟩ rfl (Nat.le_of_ble_eq_true rfl) ?_
      obtain ⟨hi7, hf⟩ := gd hf
      refine k_iast hK dX10_game_55 zb_121 hi7 rfl ?_
      refine lt_S hf (fun S8 hf => ?_)
      refine j_iinc hK (L' := [(4, .int (v.2 + (1 : Int32))), (3, .int r1), (0, .ref 0), (1, .int x1), (2, .int x2)]) dX10_game_56 4 rfl (congrArg (fun y => v.2 + y) ic_1) (by decide) rfl ?_
      refine j_goto hK 28 dX10_game_59 (by decide) ?_
      refine j_sub [2, 3, 4, 1, 0] rfl ?_
      exact hk _ _ hf)
def f_X10_game (p1 : Int32) (p2 : Int32) (S : St) : Option (Int32 × St) := (if p1 < 0 then some ((-1 : Int32), S) else (if (60 : Int32) < p1 then some ((-1 : Int32), S) else (if p2 < (2 : Int32) then some ((-1 : Int32), S) else (if p2 ≤ (9 : Int32) then lp (f_X10_game_28b p1 p2 (fun v9 S10 => lp (f_X10_game_65b p2 v9.1 (fun v11 S12 => some ((0 : Int32), S12))) FU (1 : Int32) S10)) FU ((0 : Int32), (0 : Int32)) S else some ((-1 : Int32), S)))))
theorem c_X10_game {p1 : Int32} {p2 : Int32} {S : St} {r : Int32} {S' : St} (hf : f_X10_game p1 p2 S = some (r, S')) : zM yX10_game cX10_game 5 2 (some .int) [.ref 0, .int p1, .int p2] S (some (.int r)) S' := by
  refine zM_of (zpl (by decide)) (Nat.le_of_ble_eq_true rfl) rfl (fun K hK hA => ?_)
  unfold f_X10_game at hf
  refine j_iload_n hK dX10_game_0 1 rfl rfl ?_
  refine j_if_lt hK 21 dX10_game_1 (by decide) (fun hc => ?_) (fun hc => ?_)
  · replace hf := if_1 hc hf
    refine j_iconst hK (-1 : Int32) dX10_game_21 ic_m1 ?_
    exact j_iret hK dX10_game_22 rfl (rt_I hA hf)
  · replace hf := if_2 hc hf
    refine j_iload_n hK dX10_game_4 1 rfl rfl ?_
    refine j_bipush hK (60 : Int32) dX10_game_5 bi_60 ?_
    refine j_icmp_gt hK 21 dX10_game_7 (by decide) (fun hc => ?_) (fun hc => ?_)
    · replace hf := if_1 hc hf
      refine j_iconst hK (-1 : Int32) dX10_game_21 ic_m1 ?_
      exact j_iret hK dX10_game_22 rfl (rt_I hA hf)
    · replace hf := if_2 hc hf
      refine j_iload_n hK dX10_game_10 2 rfl rfl ?_
      refine j_iconst hK (2 : Int32) dX10_game_11 ic_2 ?_
      refine j_icmp_lt hK 21 dX10_game_12 (by decide) (fun hc => ?_) (fun hc => ?_)
      · replace hf := if_1 hc hf
        refine j_iconst hK (-1 : Int32) dX10_game_21 ic_m1 ?_
        exact j_iret hK dX10_game_22 rfl (rt_I hA hf)
      · replace hf := if_2 hc hf
        refine j_iload_n hK dX10_game_15 2 rfl rfl ?_
        refine j_bipush hK (9 : Int32) dX10_game_16 bi_9 ?_
        refine j_icmp_le hK 23 dX10_game_18 (by decide) (fun hc => ?_) (fun hc => ?_)
        · replace hf := if_1 hc hf
          refine j_iconst hK (0 : Int32) dX10_game_23 ic_0 ?_
          refine j_istore_n hK (L' := [(3, .int (0 : Int32)), (0, .ref 0), (1, .int p1), (2, .int p2)]) dX10_game_24 rfl (by decide) rfl ?_
          refine j_iconst hK (0 : Int32) dX10_game_25 ic_0 ?_
          refine j_istore hK (L' := [(4, .int (0 : Int32)), (3, .int (0 : Int32)), (0, .ref 0), (1, .int p1), (2, .int p2)]) dX10_game_26 (by decide) rfl ?_
          refine j_sub [2, 3, 4, 1, 0] rfl ?_
          refine t_X10_game_28 hK hA  (fun v9 S10 hf => ?_) _ _ _ hf
          refine j_iconst hK (1 : Int32) dX10_game_62 ic_1 ?_
          refine j_istore hK (L' := [(4, .int (1 : Int32)), (2, .int p2), (3, .int v9.1)]) dX10_game_63 (by decide) rfl ?_
          refine j_sub [1, 2, 0] rfl ?_
          refine t_X10_game_65 hK hA  (fun v11 S12 hf => ?_) _ _ _ hf
          refine j_iconst hK (0 : Int32) dX10_game_90 ic_0 ?_
          exact j_iret hK dX10_game_91 rfl (rt_I hA hf)
        · replace hf := if_2 hc hf
          refine j_iconst hK (-1 : Int32) dX10_game_21 ic_m1 ?_
          exact j_iret hK dX10_game_22 rfl (rt_I hA hf)
def f_X2_stepAt (p0 : Int32) (p1 : Int32) (p2 : Int32) (S : St) : Option (Int32 × St) := some (((((p0 * (2 : Int32)) + p1) * (8 : Int32)) + p2), S)
theorem c_X2_stepAt {p0 : Int32} {p1 : Int32} {p2 : Int32} {S : St} {r : Int32} {S' : St} (hf : f_X2_stepAt p0 p1 p2 S = some (r, S')) : zM yX2_stepAt cX2_stepAt 3 1 (some .int) [.int p0, .int p1, .int p2] S (some (.int r)) S' := by
  refine zM_of (zpl (by decide)) (Nat.le_of_ble_eq_true rfl) rfl (fun K hK hA => ?_)
  unfold f_X2_stepAt at hf
  refine j_iload_n hK dX2_stepAt_0 0 rfl rfl ?_
  refine j_iconst hK (2 : Int32) dX2_stepAt_1 ic_2 ?_
  refine j_imul hK dX2_stepAt_2 ?_
  refine j_iload_n hK dX2_stepAt_3 1 rfl rfl ?_
  refine j_iadd hK dX2_stepAt_4 ?_
  refine j_bipush hK (8 : Int32) dX2_stepAt_5 bi_8 ?_
  refine j_imul hK dX2_stepAt_7 ?_
  refine j_iload_n hK dX2_stepAt_8 2 rfl rfl ?_
  refine j_pc (pc' := 9) rfl ?_
  refine j_iadd hK dX2_stepAt_9 ?_
  exact j_iret hK dX2_stepAt_10 rfl (rt_I hA hf)
def f_X2_learnSteps_15b (ru : Nat) (x2 : Int32) (e : Int32 → St → Option (Unit × St)) (k : Int32 → St → Option (Unit × St)) (v : Int32) (S : St) : Option (Unit × St) := (if (8 : Int32) ≤ v then e v S else bd (f_X2_stepAt x2 (0 : Int32) v S) (fun r1 S2 => bd (f_X6_changed ru x2 (0 : Int32) (0 : Int32) v S2) (fun r4 S5 => if inb r1 192 then lt (sI S5 95 r1.toNatClampNeg r4) (fun S8 => bd (f_X2_stepAt x2 (1 : Int32) v S8) (fun r9 S10 => bd (f_X6_changed ru x2 (1 : Int32) (0 : Int32) v S10) (fun r12 S13 => if inb r9 192 then lt (sI S13 95 r9.toNatClampNeg r12) (fun S16 => k (v + (1 : Int32)) S16) else none))) else none)))
theorem t_X2_learnSteps_15 {K : CT} (hK : KO K cX2_learnSteps RX2 4 4 none) {r : Unit} {S' : St} (hA : zans K (none, S')) {ru : Nat} (hru : isRule ru) {x2 : Int32} {e : Int32 → St → Option (Unit × St)} (he : ∀ (v : Int32) (S : St), e v S = some (r, S') → J K 79 [(0, .ref 92), (1, .ref ru), (2, .int x2)] [] S) : ∀ (n : Nat) (v : Int32) (S : St), lp (f_X2_learnSteps_15b ru x2 e) n v S = some (r, S') → J K 15 [(0, .ref 92), (1, .ref ru), (2, .int x2), (3, .int v)] [] S :=
  lp_J (P := fun (v : Int32) (S : St) => J K 15 [(0, .ref 92), (1, .ref ru), (2, .int x2), (3, .int v)] [] S) (fun k hk v S hf => by
    unfold f_X2_learnSteps_15b at hf
    refine j_iload_n hK dX2_learnSteps_15 3 rfl rfl ?_
    refine j_bipush hK (8 : Int32) dX2_learnSteps_16 bi_8 ?_
    refine j_icmp_ge hK 79 dX2_learnSteps_18 (by decide) (fun hc => ?_) (fun hc => ?_)
    · replace hf := if_1 hc hf
      refine j_sub [0, 1, 2] rfl ?_
      exact he _ _ hf
    · replace hf := if_2 hc hf
      refine j_aload_n hK dX2_learnSteps_21 0 rfl rfl ?_
      refine j_getR hK fl_X2_32 dX2_learnSteps_22 zo_92 zf_2_6 zr_92_6 ?_
      refine j_iload_n hK dX2_learnSteps_25 2 rfl rfl ?_
      refine j_iconst hK (0 : Int32) dX2_learnSteps_26 ic_0 ?_
      refine j_iload_n hK dX2_learnSteps_27 3 rfl rfl ?_
      obtain ⟨r1, S2, h3, hf⟩ := bd_J hf
      refine k_callSi hK (c_X2_stepAt h3) dX2_learnSteps_28 ml_X2_99 ms_X2_stepAt in_X2 mc_X2_stepAt hy_X2_stepAt ⟨by decide, by decide⟩ rfl (Nat.le_of_ble_eq_true rfl) ?_
      refine j_aload_n hK dX2_learnSteps_31 1 rfl rfl ?_
      refine j_pc (pc' := 32) rfl ?_
      refine j_aload_n hK dX2_learnSteps_32 0 rfl rfl ?_
      refine j_getR hK fl_X2_9 dX2_learnSteps_33 zo_92 zf_2_0 zr_92_0 ?_
      refine j_getR hK fl_X2_55 dX2_learnSteps_36 zo_3 zf_0_3 zr_3_3 ?_
      refine j_iload_n hK dX2_learnSteps_39 2 rfl rfl ?_
      refine j_iconst hK (0 : Int32) dX2_learnSteps_40 ic_0 ?_
      refine j_iconst hK (0 : Int32) dX2_learnSteps_41 ic_0 ?_
      refine j_iload_n hK dX2_learnSteps_42 3 rfl rfl ?_
      obtain ⟨r4, S5, h6, hf⟩ := bd_J hf
      refine k_callVi hK (c_X6_changed hru h6) dX2_learnSteps_43 zclX6 (ru_o hru) ml_X2_86 mi_X6_changed mx_X6_changed in_X6 mc_X6_changed hy_X6_changed ⟨by decide, by decide⟩ rfl (Nat.le_of_ble_eq_true rfl) ?_
      refine j_pc (pc' := 46) rfl ?_
      obtain ⟨hi7, hf⟩ := gd hf
      refine k_iast hK dX2_learnSteps_46 zb_95 hi7 rfl ?_
      refine lt_S hf (fun S8 hf => ?_)
      refine j_aload_n hK dX2_learnSteps_47 0 rfl rfl ?_
      refine j_getR hK fl_X2_32 dX2_learnSteps_48 zo_92 zf_2_6 zr_92_6 ?_
      refine j_iload_n hK dX2_learnSteps_51 2 rfl rfl ?_
      refine j_iconst hK (1 : Int32) dX2_learnSteps_52 ic_1 ?_
      refine j_iload_n hK dX2_learnSteps_53 3 rfl rfl ?_
      obtain ⟨r9, S10, h11, hf⟩ := bd_J hf
      refine k_callSi hK (c_X2_stepAt h11) dX2_learnSteps_54 ml_X2_99 ms_X2_stepAt in_X2 mc_X2_stepAt hy_X2_stepAt ⟨by decide, by decide⟩ rfl (Nat.le_of_ble_eq_true rfl) ?_
      refine j_aload_n hK dX2_learnSteps_57 1 rfl rfl ?_
      refine j_pc (pc' := 58) rfl ?_
      refine j_aload_n hK dX2_learnSteps_58 0 rfl rfl ?_
      refine j_getR hK fl_X2_9 dX2_learnSteps_59 zo_92 zf_2_0 zr_92_0 ?_
      refine j_getR hK fl_X2_55 dX2_learnSteps_62 zo_3 zf_0_3 zr_3_3 ?_
      refine j_iload_n hK dX2_learnSteps_65 2 rfl rfl ?_
      refine j_iconst hK (1 : Int32) dX2_learnSteps_66 ic_1 ?_
      refine j_iconst hK (0 : Int32) dX2_learnSteps_67 ic_0 ?_
      refine j_iload_n hK dX2_learnSteps_68 3 rfl rfl ?_
      obtain ⟨r12, S13, h14, hf⟩ := bd_J hf
      refine k_callVi hK (c_X6_changed hru h14) dX2_learnSteps_69 zclX6 (ru_o hru) ml_X2_86 mi_X6_changed mx_X6_changed in_X6 mc_X6_changed hy_X6_changed ⟨by decide, by decide⟩ rfl (Nat.le_of_ble_eq_true rfl) ?_
      refine j_pc (pc' := 72) rfl ?_
      obtain ⟨hi15, hf⟩ := gd hf
      refine k_iast hK dX2_learnSteps_72 zb_95 hi15 rfl ?_
      refine lt_S hf (fun S16 hf => ?_)
      refine j_iinc hK (L' := [(3, .int (v + (1 : Int32))), (0, .ref 92), (1, .ref ru), (2, .int x2)]) dX2_learnSteps_73 3 rfl (congrArg (fun y => v + y) ic_1) (by decide) rfl ?_
      refine j_goto hK 15 dX2_learnSteps_76 (by decide) ?_
      refine j_sub [1, 2, 3, 0] rfl ?_
      exact hk _ _ hf)
def f_X2_learnSteps_2b (ru : Nat) (e : Int32 → St → Option (Unit × St)) (k : Int32 → St → Option (Unit × St)) (v : Int32) (S : St) : Option (Unit × St) := (if (gI S 3 2) ≤ v then e v S else lp (f_X2_learnSteps_15b ru v (fun v17 S18 => k (v + (1 : Int32)) S18)) FU (0 : Int32) S)
theorem t_X2_learnSteps_2 {K : CT} (hK : KO K cX2_learnSteps RX2 4 4 none) {r : Unit} {S' : St} (hA : zans K (none, S')) {ru : Nat} (hru : isRule ru) {e : Int32 → St → Option (Unit × St)} (he : ∀ (v : Int32) (S : St), e v S = some (r, S') → J K 85 [] [] S) : ∀ (n : Nat) (v : Int32) (S : St), lp (f_X2_learnSteps_2b ru e) n v S = some (r, S') → J K 2 [(0, .ref 92), (1, .ref ru), (2, .int v)] [] S :=
  lp_J (P := fun (v : Int32) (S : St) => J K 2 [(0, .ref 92), (1, .ref ru), (2, .int v)] [] S) (fun k hk v S hf => by
    unfold f_X2_learnSteps_2b at hf
    refine j_iload_n hK dX2_learnSteps_2 2 rfl rfl ?_
    refine j_aload_n hK dX2_learnSteps_3 0 rfl rfl ?_
    refine j_getR hK fl_X2_9 dX2_learnSteps_4 zo_92 zf_2_0 zr_92_0 ?_
    refine j_getI hK fl_X2_96 dX2_learnSteps_7 zo_3 zf_0_2 ?_
    refine j_icmp_ge hK 85 dX2_learnSteps_10 (by decide) (fun hc => ?_) (fun hc => ?_)
    · replace hf := if_1 hc hf
      refine j_sub [] rfl ?_
      exact he _ _ hf
    · replace hf := if_2 hc hf
      refine j_iconst hK (0 : Int32) dX2_learnSteps_13 ic_0 ?_
      refine j_istore_n hK (L' := [(3, .int (0 : Int32)), (0, .ref 92), (1, .ref ru), (2, .int v)]) dX2_learnSteps_14 rfl (by decide) rfl ?_
      refine j_sub [1, 2, 3, 0] rfl ?_
      refine t_X2_learnSteps_15 hK hA hru (fun v17 S18 hf => ?_) _ _ _ hf
      refine j_iinc hK (L' := [(2, .int (v + (1 : Int32))), (0, .ref 92), (1, .ref ru)]) dX2_learnSteps_79 2 rfl (congrArg (fun y => v + y) ic_1) (by decide) rfl ?_
      refine j_goto hK 2 dX2_learnSteps_82 (by decide) ?_
      refine j_sub [1, 2, 0] rfl ?_
      exact hk _ _ hf)
def f_X2_learnSteps (ru : Nat) (S : St) : Option (Unit × St) := lp (f_X2_learnSteps_2b ru (fun v19 S20 => some ((), S20))) FU (0 : Int32) S
theorem c_X2_learnSteps {ru : Nat} (hru : isRule ru) {S : St} {r : Unit} {S' : St} (hf : f_X2_learnSteps ru S = some (r, S')) : zM yX2_learnSteps cX2_learnSteps 4 4 none [.ref 92, .ref ru] S (none) S' := by
  refine zM_of (zpl (by decide)) (Nat.le_of_ble_eq_true rfl) rfl (fun K hK hA => ?_)
  unfold f_X2_learnSteps at hf
  refine j_iconst hK (0 : Int32) dX2_learnSteps_0 ic_0 ?_
  refine j_istore_n hK (L' := [(2, .int (0 : Int32)), (0, .ref 92), (1, .ref ru)]) dX2_learnSteps_1 rfl (by decide) rfl ?_
  refine j_sub [1, 2, 0] rfl ?_
  refine t_X2_learnSteps_2 hK hA hru (fun v19 S20 hf => ?_) _ _ _ hf
  exact j_vret hK dX2_learnSteps_85 rfl (rt_V hA hf)
def f_X2_keptByLearntSteps_65 (x2 : Int32) (s0 : Int32) (s1 : Int32) (k e : Int32 × Int32 → St → Option (Int32 × St)) (S : St) : Option (Int32 × St) := lt (s0 + s1) (fun y1 => k (y1, (x2 + (1 : Int32))) S)
theorem t_X2_keptByLearntSteps_65 {K : CT} (hK : KO K cX2_keptByLearntSteps RX2 5 2 (some .int)) {r : Int32} {S' : St} (hA : zans K (some (.int r), S')) {x2 : Int32} {s0 : Int32} {s1 : Int32} {k e : Int32 × Int32 → St → Option (Int32 × St)} (hk : ∀ (v : Int32 × Int32) (S : St), k v S = some (r, S') → J K 4 [(0, .ref 92), (1, .int v.1), (2, .int v.2)] [] S) (he : ∀ (v : Int32 × Int32) (S : St), e v S = some (r, S') → J K 73 [(1, .int v.1)] [] S) {S : St} (hf : f_X2_keptByLearntSteps_65 x2 s0 s1 k e S = some (r, S')) : J K 65 [(0, .ref 92), (2, .int x2)] [.int s1, .int s0] S := by
  unfold f_X2_keptByLearntSteps_65 at hf
  refine j_iadd hK dX2_keptByLearntSteps_65 ?_
  refine lt_I hf (fun y1 hf => ?_)
  refine j_istore_n hK (L' := [(1, .int y1), (0, .ref 92), (2, .int x2)]) dX2_keptByLearntSteps_66 rfl (by decide) rfl ?_
  refine j_iinc hK (L' := [(2, .int (x2 + (1 : Int32))), (1, .int y1), (0, .ref 92)]) dX2_keptByLearntSteps_67 2 rfl (congrArg (fun y => x2 + y) ic_1) (by decide) rfl ?_
  refine j_goto hK 4 dX2_keptByLearntSteps_70 (by decide) ?_
  refine j_sub [2, 1, 0] rfl ?_
  exact hk _ _ hf
def f_X2_keptByLearntSteps_15b (x1 : Int32) (x2 : Int32) (e : Int32 × Int32 → St → Option (Int32 × St)) (k : Int32 × Int32 → St → Option (Int32 × St)) (v : Int32 × Int32) (S : St) : Option (Int32 × St) := (if (gI S 92 3) ≤ v.2 then e (v.1, v.2) S else if inb v.2 12 then if inb v.2 12 then bd (f_X2_stepAt (gI S 93 v.2.toNatClampNeg) (gI S 94 v.2.toNatClampNeg) v.1 S) (fun r4 S5 => if inb r4 192 then lt (gI S5 95 r4.toNatClampNeg) (fun y8 => k (y8, (v.2 + (1 : Int32))) S5) else none) else none else none)
theorem t_X2_keptByLearntSteps_15 {K : CT} (hK : KO K cX2_keptByLearntSteps RX2 5 2 (some .int)) {r : Int32} {S' : St} (hA : zans K (some (.int r), S')) {x1 : Int32} {x2 : Int32} {e : Int32 × Int32 → St → Option (Int32 × St)} (he : ∀ (v : Int32 × Int32) (S : St), e v S = some (r, S') → J K 54 [(0, .ref 92), (1, .int x1), (2, .int x2), (3, .int v.1)] [] S) : ∀ (n : Nat) (v : Int32 × Int32) (S : St), lp (f_X2_keptByLearntSteps_15b x1 x2 e) n v S = some (r, S') → J K 15 [(0, .ref 92), (1, .int x1), (2, .int x2), (3, .int v.1), (4, .int v.2)] [] S :=
  lp_J (P := fun (v : Int32 × Int32) (S : St) => J K 15 [(0, .ref 92), (1, .int x1), (2, .int x2), (3, .int v.1), (4, .int v.2)] [] S) (fun k hk v S hf => by
    unfold f_X2_keptByLearntSteps_15b at hf
    refine j_iload hK dX2_keptByLearntSteps_15 4 rfl ?_
    refine j_aload_n hK dX2_keptByLearntSteps_17 0 rfl rfl ?_
    refine j_getI hK fl_X2_22 dX2_keptByLearntSteps_18 zo_92 zf_2_3 ?_
    refine j_icmp_ge hK 54 dX2_keptByLearntSteps_21 (by decide) (fun hc => ?_) (fun hc => ?_)
    · replace hf := if_1 hc hf
      refine j_sub [0, 1, 2, 3] rfl ?_
      exact he _ _ hf
    · replace hf := if_2 hc hf
      refine j_aload_n hK dX2_keptByLearntSteps_24 0 rfl rfl ?_
      refine j_getR hK fl_X2_32 dX2_keptByLearntSteps_25 zo_92 zf_2_6 zr_92_6 ?_
      refine j_aload_n hK dX2_keptByLearntSteps_28 0 rfl rfl ?_
      refine j_getR hK fl_X2_15 dX2_keptByLearntSteps_29 zo_92 zf_2_1 zr_92_1 ?_
      refine j_iload hK dX2_keptByLearntSteps_32 4 rfl ?_
      obtain ⟨hi2, hf⟩ := gd hf
      refine k_iald hK dX2_keptByLearntSteps_34 zb_93 hi2 rfl ?_
      refine j_aload_n hK dX2_keptByLearntSteps_35 0 rfl rfl ?_
      refine j_pc (pc' := 36) rfl ?_
      refine j_getR hK fl_X2_19 dX2_keptByLearntSteps_36 zo_92 zf_2_2 zr_92_2 ?_
      refine j_iload hK dX2_keptByLearntSteps_39 4 rfl ?_
      obtain ⟨hi3, hf⟩ := gd hf
      refine k_iald hK dX2_keptByLearntSteps_41 zb_94 hi3 rfl ?_
      refine j_iload_n hK dX2_keptByLearntSteps_42 3 rfl rfl ?_
      obtain ⟨r4, S5, h6, hf⟩ := bd_J hf
      refine k_callSi hK (c_X2_stepAt h6) dX2_keptByLearntSteps_43 ml_X2_99 ms_X2_stepAt in_X2 mc_X2_stepAt hy_X2_stepAt ⟨by decide, by decide⟩ rfl (Nat.le_of_ble_eq_true rfl) ?_
      obtain ⟨hi7, hf⟩ := gd hf
      refine k_iald hK dX2_keptByLearntSteps_46 zb_95 hi7 rfl ?_
      refine lt_I hf (fun y8 hf => ?_)
      refine j_istore_n hK (L' := [(3, .int y8), (0, .ref 92), (1, .int x1), (2, .int x2), (4, .int v.2)]) dX2_keptByLearntSteps_47 rfl (by decide) rfl ?_
      refine j_iinc hK (L' := [(4, .int (v.2 + (1 : Int32))), (3, .int y8), (0, .ref 92), (1, .int x1), (2, .int x2)]) dX2_keptByLearntSteps_48 4 rfl (congrArg (fun y => v.2 + y) ic_1) (by decide) rfl ?_
      refine j_pc (pc' := 51) rfl ?_
      refine j_goto hK 15 dX2_keptByLearntSteps_51 (by decide) ?_
      refine j_sub [2, 3, 4, 1, 0] rfl ?_
      exact hk _ _ hf)
def f_X2_keptByLearntSteps_4b (e : Int32 × Int32 → St → Option (Int32 × St)) (k : Int32 × Int32 → St → Option (Int32 × St)) (v : Int32 × Int32) (S : St) : Option (Int32 × St) := (if (8 : Int32) ≤ v.2 then e (v.1, v.2) S else lp (f_X2_keptByLearntSteps_15b v.1 v.2 (fun v9 S10 => (if v9.1 = v.2 then f_X2_keptByLearntSteps_65 v.2 v.1 (1 : Int32) k e S10 else f_X2_keptByLearntSteps_65 v.2 v.1 (0 : Int32) k e S10))) FU (v.2, (0 : Int32)) S)
theorem t_X2_keptByLearntSteps_4 {K : CT} (hK : KO K cX2_keptByLearntSteps RX2 5 2 (some .int)) {r : Int32} {S' : St} (hA : zans K (some (.int r), S')) {e : Int32 × Int32 → St → Option (Int32 × St)} (he : ∀ (v : Int32 × Int32) (S : St), e v S = some (r, S') → J K 73 [(1, .int v.1)] [] S) : ∀ (n : Nat) (v : Int32 × Int32) (S : St), lp (f_X2_keptByLearntSteps_4b  e) n v S = some (r, S') → J K 4 [(0, .ref 92), (1, .int v.1), (2, .int v.2)] [] S :=
  lp_J (P := fun (v : Int32 × Int32) (S : St) => J K 4 [(0, .ref 92), (1, .int v.1), (2, .int v.2)] [] S) (fun k hk v S hf => by
    unfold f_X2_keptByLearntSteps_4b at hf
    refine j_iload_n hK dX2_keptByLearntSteps_4 2 rfl rfl ?_
    refine j_bipush hK (8 : Int32) dX2_keptByLearntSteps_5 bi_8 ?_
    refine j_icmp_ge hK 73 dX2_keptByLearntSteps_7 (by decide) (fun hc => ?_) (fun hc => ?_)
    · replace hf := if_1 hc hf
      refine j_sub [1] rfl ?_
      exact he _ _ hf
    · replace hf := if_2 hc hf
      refine j_iload_n hK dX2_keptByLearntSteps_10 2 rfl rfl ?_
      refine j_istore_n hK (L' := [(3, .int v.2), (0, .ref 92), (1, .int v.1), (2, .int v.2)]) dX2_keptByLearntSteps_11 rfl (by decide) rfl ?_
      refine j_iconst hK (0 : Int32) dX2_keptByLearntSteps_12 ic_0 ?_
      refine j_istore hK (L' := [(4, .int (0 : Int32)), (3, .int v.2), (0, .ref 92), (1, .int v.1), (2, .int v.2)]) dX2_keptByLearntSteps_13 (by decide) rfl ?_
      refine j_sub [2, 3, 4, 1, 0] rfl ?_
      refine t_X2_keptByLearntSteps_15 hK hA  (fun v9 S10 hf => ?_) _ _ _ hf
      refine j_iload_n hK dX2_keptByLearntSteps_54 1 rfl rfl ?_
      refine j_iload_n hK dX2_keptByLearntSteps_55 3 rfl rfl ?_
      refine j_iload_n hK dX2_keptByLearntSteps_56 2 rfl rfl ?_
      refine j_icmp_ne hK 64 dX2_keptByLearntSteps_57 (by decide) (fun hc => ?_) (fun hc => ?_)
      · replace hf := if_2 hc hf
        refine j_iconst hK (0 : Int32) dX2_keptByLearntSteps_64 ic_0 ?_
        refine j_sub [0, 2] rfl ?_
        exact t_X2_keptByLearntSteps_65 hK hA hk he hf
      · replace hf := if_1 hc hf
        refine j_iconst hK (1 : Int32) dX2_keptByLearntSteps_60 ic_1 ?_
        refine j_goto hK 65 dX2_keptByLearntSteps_61 (by decide) ?_
        refine j_sub [0, 2] rfl ?_
        exact t_X2_keptByLearntSteps_65 hK hA hk he hf)
def f_X2_keptByLearntSteps (S : St) : Option (Int32 × St) := lp (f_X2_keptByLearntSteps_4b  (fun v11 S12 => some (v11.1, S12))) FU ((0 : Int32), (0 : Int32)) S
theorem c_X2_keptByLearntSteps {S : St} {r : Int32} {S' : St} (hf : f_X2_keptByLearntSteps S = some (r, S')) : zM yX2_keptByLearntSteps cX2_keptByLearntSteps 5 2 (some .int) [.ref 92] S (some (.int r)) S' := by
  refine zM_of (zpl (by decide)) (Nat.le_of_ble_eq_true rfl) rfl (fun K hK hA => ?_)
  unfold f_X2_keptByLearntSteps at hf
  refine j_iconst hK (0 : Int32) dX2_keptByLearntSteps_0 ic_0 ?_
  refine j_istore_n hK (L' := [(1, .int (0 : Int32)), (0, .ref 92)]) dX2_keptByLearntSteps_1 rfl (by decide) rfl ?_
  refine j_iconst hK (0 : Int32) dX2_keptByLearntSteps_2 ic_0 ?_
  refine j_istore_n hK (L' := [(2, .int (0 : Int32)), (1, .int (0 : Int32)), (0, .ref 92)]) dX2_keptByLearntSteps_3 rfl (by decide) rfl ?_
  refine j_sub [2, 1, 0] rfl ?_
  refine t_X2_keptByLearntSteps_4 hK hA  (fun v11 S12 hf => ?_) _ _ _ hf
  refine j_iload_n hK dX2_keptByLearntSteps_73 0 rfl rfl ?_
  exact j_iret hK dX2_keptByLearntSteps_74 rfl (rt_I hA hf)
