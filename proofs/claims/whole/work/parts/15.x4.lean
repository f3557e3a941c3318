def f_X4_lose_7b (e : Int32 → St → Option (Unit × St)) (k : Int32 → St → Option (Unit × St)) (v : Int32) (S : St) : Option (Unit × St) := (if (3 : Int32) ≤ v then e v S else if inb v 3 then lt (sI S 91 v.toNatClampNeg (vp_nar .boolean (0 : Int32))) (fun S2 => k (v + (1 : Int32)) S2) else none)
theorem t_X4_lose_7 {K : CT} (hK : KO K cX4_lose RX4 2 1 none) {r : Unit} {S' : St} (hA : zans K = (none, S')) {e : Int32 → St → Option (Unit × St)} (he : ∀ (v : Int32) (S : St), e v S = some (r, S') → J K 25 [] [] S) : ∀ (n : Nat) (v : Int32) (S : St), lp (f_X4_lose_7b  e) n v S = some (r, S') → J K 7 [(0, .ref 12), (1, .int v)] [] S :=
  lp_J (P := fun (v : Int32) (S : St) => J K 7 [(0, .ref 12), (1, .int v)] [] S) (fun k hk v S hf => by
    unfold f_X4_lose_7b at hf
    refine j_iload_n hK dX4_lose_7 1 rfl rfl ?_
    refine j_iconst hK (3 : Int32) dX4_lose_8 ic_3 ?_
    refine j_icmp_ge hK 25 dX4_lose_9 (by decide) (fun hc => ?_) (fun hc => ?_)
    · replace hf := if_1 hc hf
      refine j_sub [] rfl ?_
      exact he _ _ hf
    · replace hf := if_2 hc hf
      refine j_aload_n hK dX4_lose_12 0 rfl rfl ?_
      refine j_getR hK fl_X4_26 dX4_lose_13 zo_12 zf_4_4 zr_12_4 ?_
      refine j_iload_n hK dX4_lose_16 1 rfl rfl ?_
      refine j_iconst hK (0 : Int32) dX4_lose_17 ic_0 ?_
      obtain ⟨hi1, hf⟩ := gd hf
      refine k_zast hK dX4_lose_18 zb_91 hi1 rfl ?_
      refine lt_S hf (fun S2 hf => ?_)
      refine j_iinc hK (L' := [(1, .int (v + (1 : Int32))), (0, .ref 12)]) dX4_lose_19 1 rfl (congrArg (fun y => v + y) ic_1) (by decide) rfl ?_
      refine j_goto hK 7 dX4_lose_22 (by decide) ?_
      refine j_sub [1, 0] rfl ?_
      exact hk _ _ hf)
def f_X4_lose (S : St) : Option (Unit × St) := lt (sI S 12 2 (0 : Int32)) (fun S3 => lp (f_X4_lose_7b  (fun v4 S5 => some ((), S5))) FU (0 : Int32) S3)
theorem c_X4_lose {S : St} {r : Unit} {S' : St} (hf : f_X4_lose S = some (r, S')) : zM yX4_lose cX4_lose 2 1 none [.ref 12] S (none) S' := by
  refine zM_of (zpl (by decide)) (Nat.le_of_ble_eq_true rfl) rfl (fun K hK hA => ?_)
  unfold f_X4_lose at hf
  refine j_aload_n hK dX4_lose_0 0 rfl rfl ?_
  refine j_iconst hK (0 : Int32) dX4_lose_1 ic_0 ?_
  refine j_putI hK fl_X4_20 dX4_lose_2 zo_12 zf_4_2 ?_
  refine lt_S hf (fun S3 hf => ?_)
  refine j_iconst hK (0 : Int32) dX4_lose_5 ic_0 ?_
  refine j_istore_n hK (L' := [(1, .int (0 : Int32)), (0, .ref 12)]) dX4_lose_6 rfl (by decide) rfl ?_
  refine j_sub [1, 0] rfl ?_
  refine t_X4_lose_7 hK hA  (fun v4 S5 hf => ?_) _ _ _ hf
  exact j_vret hK dX4_lose_25 rfl (rt_V hA hf)
def f_X4_marked (S : St) : Option (Nat × St) := lt (((gI S 12 1) + (gI S 12 2)) - ((gI S 12 1) + (gI S 12 2)) / (16 : Int32) * (16 : Int32)) (fun y1 => if inb y1 16 then some ((zr 13 y1.toNatClampNeg), S) else none)
theorem c_X4_marked {S : St} {r : Nat} {S' : St} (hf : f_X4_marked S = some (r, S')) : zM yX4_marked cX4_marked 1 1 (some (.object "CaveAdvice$State")) [.ref 12] S (some (.ref r)) S' := by
  refine zM_of (zpl (by decide)) (Nat.le_of_ble_eq_true rfl) rfl (fun K hK hA => ?_)
  unfold f_X4_marked at hf
  refine j_aload_n hK dX4_marked_0 0 rfl rfl ?_
  refine j_getR hK fl_X4_11 dX4_marked_1 zo_12 zf_4_0 zr_12_0 ?_
  refine j_aload_n hK dX4_marked_4 0 rfl rfl ?_
  refine j_getI hK fl_X4_16 dX4_marked_5 zo_12 zf_4_1 ?_
  refine j_aload_n hK dX4_marked_8 0 rfl rfl ?_
  refine j_getI hK fl_X4_20 dX4_marked_9 zo_12 zf_4_2 ?_
  refine j_iadd hK dX4_marked_12 ?_
  refine j_bipush hK (16 : Int32) dX4_marked_13 bi_16 ?_
  refine j_pc (pc' := 15) rfl ?_
  refine j_irem hK dX4_marked_15 (by decide) ?_
  refine lt_I hf (fun y1 hf => ?_)
  obtain ⟨hi2, hf⟩ := gd hf
  refine j_aald hK dX4_marked_16 zb_13 hi2 ?_
  exact j_aret hK dX4_marked_17 rfl (rt_R hA hf)
def f_X4_mark (S : St) : Option (Unit × St) := bd (f_X4_marked S) (fun r1 S2 => if isState r1 then bd (f_X7_take r1 6 S2) (fun r5 S6 => some ((), S6)) else none)
theorem c_X4_mark {S : St} {r : Unit} {S' : St} (hf : f_X4_mark S = some (r, S')) : zM yX4_mark cX4_mark 2 2 none [.ref 12, .ref 6] S (none) S' := by
  refine zM_of (zpl (by decide)) (Nat.le_of_ble_eq_true rfl) rfl (fun K hK hA => ?_)
  unfold f_X4_mark at hf
  refine j_aload_n hK dX4_mark_0 0 rfl rfl ?_
  obtain ⟨r1, S2, h3, hf⟩ := bd_J hf
  obtain ⟨hq4, hf⟩ := gd hf
  refine k_callVr hK (c_X4_marked h3) dX4_mark_1 zclX4 zo_12 ml_X4_30 mi_X4_marked mx_X4_marked in_X4 mc_X4_marked hy_X4_marked ⟨by decide, by decide⟩ rfl (Nat.le_of_ble_eq_true rfl) ?_
  refine j_aload_n hK dX4_mark_4 1 rfl rfl ?_
  obtain ⟨r5, S6, h7, hf⟩ := bd_J hf
  refine k_callVv hK (c_X7_take hq4 zo_6 h7) dX4_mark_5 zclX7 hq4 ml_X4_34 mi_X7_take mx_X7_take in_X7 mc_X7_take hy_X7_take ⟨by decide, by decide⟩ rfl (Nat.le_of_ble_eq_true rfl) ?_
  exact j_vret hK dX4_mark_8 rfl (rt_V hA hf)
def f_X4_settle (p1 : Int32) (S : St) : Option (Unit × St) := (if p1 = 0 then some ((), S) else (if (15 : Int32) ≤ (gI S 12 2) then lt (((gI S 12 1) + (1 : Int32)) - ((gI S 12 1) + (1 : Int32)) / (16 : Int32) * (16 : Int32)) (fun y1 => lt (sI S 12 1 y1) (fun S2 => some ((), S2))) else lt (sI S 12 2 ((gI S 12 2) + (1 : Int32))) (fun S3 => some ((), S3))))
theorem c_X4_settle {p1 : Int32} {S : St} {r : Unit} {S' : St} (hf : f_X4_settle p1 S = some (r, S')) : zM yX4_settle cX4_settle 2 1 none [.ref 12, .int p1] S (none) S' := by
  refine zM_of (zpl (by decide)) (Nat.le_of_ble_eq_true rfl) rfl (fun K hK hA => ?_)
  unfold f_X4_settle at hf
  refine j_iload_n hK dX4_settle_0 1 rfl rfl ?_
  refine j_if_ne hK 5 dX4_settle_1 (by decide) (fun hc => ?_) (fun hc => ?_)
  · replace hf := if_2 hc hf
    refine j_aload_n hK dX4_settle_5 0 rfl rfl ?_
    refine j_getI hK fl_X4_20 dX4_settle_6 zo_12 zf_4_2 ?_
    refine j_bipush hK (15 : Int32) dX4_settle_9 bi_15 ?_
    refine j_icmp_ge hK 27 dX4_settle_11 (by decide) (fun hc => ?_) (fun hc => ?_)
    · replace hf := if_1 hc hf
      refine j_aload_n hK dX4_settle_27 0 rfl rfl ?_
      refine j_aload_n hK dX4_settle_28 0 rfl rfl ?_
      refine j_getI hK fl_X4_16 dX4_settle_29 zo_12 zf_4_1 ?_
      refine j_iconst hK (1 : Int32) dX4_settle_32 ic_1 ?_
      refine j_iadd hK dX4_settle_33 ?_
      refine j_bipush hK (16 : Int32) dX4_settle_34 bi_16 ?_
      refine j_irem hK dX4_settle_36 (by decide) ?_
      refine lt_I hf (fun y1 hf => ?_)
      refine j_pc (pc' := 37) rfl ?_
      refine j_putI hK fl_X4_16 dX4_settle_37 zo_12 zf_4_1 ?_
      refine lt_S hf (fun S2 hf => ?_)
      exact j_vret hK dX4_settle_40 rfl (rt_V hA hf)
    · replace hf := if_2 hc hf
      refine j_aload_n hK dX4_settle_14 0 rfl rfl ?_
      refine j_dup hK dX4_settle_15 rfl ?_
      refine j_getI hK fl_X4_20 dX4_settle_16 zo_12 zf_4_2 ?_
      refine j_iconst hK (1 : Int32) dX4_settle_19 ic_1 ?_
      refine j_iadd hK dX4_settle_20 ?_
      refine j_putI hK fl_X4_20 dX4_settle_21 zo_12 zf_4_2 ?_
      refine lt_S hf (fun S3 hf => ?_)
      refine j_goto hK 40 dX4_settle_24 (by decide) ?_
      exact j_vret hK dX4_settle_40 rfl (rt_V hA hf)
  · replace hf := if_1 hc hf
    exact j_vret hK dX4_settle_4 rfl (rt_V hA hf)
def f_X4_latest (S : St) : Option (Nat × St) := lt (sI S 12 2 (mxI (0 : Int32) ((gI S 12 2) - (1 : Int32)))) (fun S1 => bd (f_X4_marked S1) (fun r2 S3 => if isState r2 then some (r2, S3) else none))
theorem c_X4_latest {S : St} {r : Nat} {S' : St} (hf : f_X4_latest S = some (r, S')) : zM yX4_latest cX4_latest 1 2 (some (.object "CaveAdvice$State")) [.ref 12] S (some (.ref r)) S' := by
  refine zM_of (zpl (by decide)) (Nat.le_of_ble_eq_true rfl) rfl (fun K hK hA => ?_)
  unfold f_X4_latest at hf
  refine j_aload_n hK dX4_latest_0 0 rfl rfl ?_
  refine j_iconst hK (0 : Int32) dX4_latest_1 ic_0 ?_
  refine j_aload_n hK dX4_latest_2 0 rfl rfl ?_
  refine j_getI hK fl_X4_20 dX4_latest_3 zo_12 zf_4_2 ?_
  refine j_iconst hK (1 : Int32) dX4_latest_6 ic_1 ?_
  refine j_isub hK dX4_latest_7 ?_
  refine j_max hK ml_X4_38 dX4_latest_8 (by decide) (Nat.le_of_ble_eq_true rfl) ?_
  refine j_putI hK fl_X4_20 dX4_latest_11 zo_12 zf_4_2 ?_
  refine lt_S hf (fun S1 hf => ?_)
  refine j_pc (pc' := 14) rfl ?_
  refine j_aload_n hK dX4_latest_14 0 rfl rfl ?_
  obtain ⟨r2, S3, h4, hf⟩ := bd_J hf
  obtain ⟨hq5, hf⟩ := gd hf
  refine k_callVr hK (c_X4_marked h4) dX4_latest_15 zclX4 zo_12 ml_X4_30 mi_X4_marked mx_X4_marked in_X4 mc_X4_marked hy_X4_marked ⟨by decide, by decide⟩ rfl (Nat.le_of_ble_eq_true rfl) ?_
  exact j_aret hK dX4_latest_18 rfl (rt_R hA hf)
def f_X4_store (p1 : Int32) (S : St) : Option (Int32 × St) := (if p1 < 0 then some ((0 : Int32), S) else (if p1 < (3 : Int32) then if inb p1 3 then bd (f_X7_take (zr 78 p1.toNatClampNeg) 6 S) (fun r2 S3 => if inb p1 3 then lt (sI S3 91 p1.toNatClampNeg (vp_nar .boolean (1 : Int32))) (fun S6 => some ((1 : Int32), S6)) else none) else none else some ((0 : Int32), S)))
theorem c_X4_store {p1 : Int32} {S : St} {r : Int32} {S' : St} (hf : f_X4_store p1 S = some (r, S')) : zM yX4_store cX4_store 3 2 (some .boolean) [.ref 12, .int p1, .ref 6] S (some (.int r)) S' := by
  refine zM_of (zpl (by decide)) (Nat.le_of_ble_eq_true rfl) rfl (fun K hK hA => ?_)
  unfold f_X4_store at hf
  refine j_iload_n hK dX4_store_0 1 rfl rfl ?_
  refine j_if_lt hK 9 dX4_store_1 (by decide) (fun hc => ?_) (fun hc => ?_)
  · replace hf := if_1 hc hf
    refine j_iconst hK (0 : Int32) dX4_store_9 ic_0 ?_
    exact j_zret hK dX4_store_10 rfl rfl (rt_I hA hf)
  · replace hf := if_2 hc hf
    refine j_iload_n hK dX4_store_4 1 rfl rfl ?_
    refine j_iconst hK (3 : Int32) dX4_store_5 ic_3 ?_
    refine j_icmp_lt hK 11 dX4_store_6 (by decide) (fun hc => ?_) (fun hc => ?_)
    · replace hf := if_1 hc hf
      refine j_aload_n hK dX4_store_11 0 rfl rfl ?_
      refine j_getR hK fl_X4_23 dX4_store_12 zo_12 zf_4_3 zr_12_3 ?_
      refine j_iload_n hK dX4_store_15 1 rfl rfl ?_
      obtain ⟨hi1, hf⟩ := gd hf
      refine j_aald hK dX4_store_16 zb_78 hi1 ?_
      refine j_aload_n hK dX4_store_17 2 rfl rfl ?_
      obtain ⟨r2, S3, h4, hf⟩ := bd_J hf
      refine k_callVv hK (c_X7_take (st_a78 hi1) zo_6 h4) dX4_store_18 zclX7 (st_a78 hi1) ml_X4_34 mi_X7_take mx_X7_take in_X7 mc_X7_take hy_X7_take ⟨by decide, by decide⟩ rfl (Nat.le_of_ble_eq_true rfl) ?_
      refine j_aload_n hK dX4_store_21 0 rfl rfl ?_
      refine j_pc (pc' := 22) rfl ?_
      refine j_getR hK fl_X4_26 dX4_store_22 zo_12 zf_4_4 zr_12_4 ?_
      refine j_iload_n hK dX4_store_25 1 rfl rfl ?_
      refine j_iconst hK (1 : Int32) dX4_store_26 ic_1 ?_
      obtain ⟨hi5, hf⟩ := gd hf
      refine k_zast hK dX4_store_27 zb_91 hi5 rfl ?_
      refine lt_S hf (fun S6 hf => ?_)
      refine j_iconst hK (1 : Int32) dX4_store_28 ic_1 ?_
      exact j_zret hK dX4_store_29 rfl rfl (rt_I hA hf)
    · replace hf := if_2 hc hf
      refine j_iconst hK (0 : Int32) dX4_store_9 ic_0 ?_
      exact j_zret hK dX4_store_10 rfl rfl (rt_I hA hf)
def f_X4_hasStored (p1 : Int32) (S : St) : Option (Int32 × St) := (if p1 < 0 then some ((0 : Int32), S) else (if (3 : Int32) ≤ p1 then some ((0 : Int32), S) else if inb p1 3 then (if (gI S 91 p1.toNatClampNeg) = 0 then some ((0 : Int32), S) else some ((1 : Int32), S)) else none))
theorem c_X4_hasStored {p1 : Int32} {S : St} {r : Int32} {S' : St} (hf : f_X4_hasStored p1 S = some (r, S')) : zM yX4_hasStored cX4_hasStored 2 1 (some .boolean) [.ref 12, .int p1] S (some (.int r)) S' := by
  refine zM_of (zpl (by decide)) (Nat.le_of_ble_eq_true rfl) rfl (fun K hK hA => ?_)
  unfold f_X4_hasStored at hf
  refine j_iload_n hK dX4_hasStored_0 1 rfl rfl ?_
  refine j_if_lt hK 22 dX4_hasStored_1 (by decide) (fun hc => ?_) (fun hc => ?_)
  · replace hf := if_1 hc hf
    refine j_iconst hK (0 : Int32) dX4_hasStored_22 ic_0 ?_
    exact j_zret hK dX4_hasStored_23 rfl rfl (rt_I hA hf)
  · replace hf := if_2 hc hf
    refine j_iload_n hK dX4_hasStored_4 1 rfl rfl ?_
    refine j_iconst hK (3 : Int32) dX4_hasStored_5 ic_3 ?_
    refine j_icmp_ge hK 22 dX4_hasStored_6 (by decide) (fun hc => ?_) (fun hc => ?_)
    · replace hf := if_1 hc hf
      refine j_iconst hK (0 : Int32) dX4_hasStored_22 ic_0 ?_
      exact j_zret hK dX4_hasStored_23 rfl rfl (rt_I hA hf)
    · replace hf := if_2 hc hf
      refine j_aload_n hK dX4_hasStored_9 0 rfl rfl ?_
      refine j_getR hK fl_X4_26 dX4_hasStored_10 zo_12 zf_4_4 zr_12_4 ?_
      refine j_iload_n hK dX4_hasStored_13 1 rfl rfl ?_
      obtain ⟨hi1, hf⟩ := gd hf
      refine k_zald hK dX4_hasStored_14 zb_91 hi1 rfl ?_
      refine j_if_eq hK 22 dX4_hasStored_15 (by decide) (fun hc => ?_) (fun hc => ?_)
      · replace hf := if_1 hc hf
        refine j_iconst hK (0 : Int32) dX4_hasStored_22 ic_0 ?_
        exact j_zret hK dX4_hasStored_23 rfl rfl (rt_I hA hf)
      · replace hf := if_2 hc hf
        refine j_iconst hK (1 : Int32) dX4_hasStored_18 ic_1 ?_
        refine j_goto hK 23 dX4_hasStored_19 (by decide) ?_
        exact j_zret hK dX4_hasStored_23 rfl rfl (rt_I hA hf)
