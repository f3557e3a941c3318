def f_X5_begin (S : St) : Option (Unit × St) := lt (sI S 10 1 (0 : Int32)) (fun S1 => some ((), S1))
theorem c_X5_begin {S : St} {r : Unit} {S' : St} (hf : f_X5_begin S = some (r, S')) : zM yX5_begin cX5_begin 1 1 none [.ref 10] S (none) S' := by
  refine zM_of (zpl (by decide)) (Nat.le_of_ble_eq_true rfl) rfl (fun K hK hA => ?_)
  unfold f_X5_begin at hf
  refine j_aload_n hK dX5_begin_0 0 rfl rfl ?_
  refine j_iconst hK (0 : Int32) dX5_begin_1 ic_0 ?_
  refine j_putI hK fl_X5_13 dX5_begin_2 zo_10 zf_5_1 ?_
  refine lt_S hf (fun S1 hf => ?_)
  exact j_vret hK dX5_begin_5 rfl (rt_V hA hf)
def f_X5_put (p1 : Int64) (S : St) : Option (Unit × St) := (if (16 : Int32) ≤ (gI S 10 1) then some ((), S) else if inb (gI S 10 1) 16 then lt (sL S 11 (gI S 10 1).toNatClampNeg p1) (fun S2 => lt (sI S2 10 1 ((gI S2 10 1) + (1 : Int32))) (fun S3 => some ((), S3))) else none)
theorem c_X5_put {p1 : Int64} {S : St} {r : Unit} {S' : St} (hf : f_X5_put p1 S = some (r, S')) : zM yX5_put cX5_put 3 1 none [.ref 10, .long p1] S (none) S' := by
  refine zM_of (zpl (by decide)) (Nat.le_of_ble_eq_true rfl) rfl (fun K hK hA => ?_)
  unfold f_X5_put at hf
  refine j_aload_n hK dX5_put_0 0 rfl rfl ?_
  refine j_getI hK fl_X5_13 dX5_put_1 zo_10 zf_5_1 ?_
  refine j_bipush hK (16 : Int32) dX5_put_4 bi_16 ?_
  refine j_icmp_ge hK 29 dX5_put_6 (by decide) (fun hc => ?_) (fun hc => ?_)
  · replace hf := if_1 hc hf
    exact j_vret hK dX5_put_29 rfl (rt_V hA hf)
  · replace hf := if_2 hc hf
    refine j_aload_n hK dX5_put_9 0 rfl rfl ?_
    refine j_getR hK fl_X5_9 dX5_put_10 zo_10 zf_5_0 zr_10_0 ?_
    refine j_aload_n hK dX5_put_13 0 rfl rfl ?_
    refine j_getI hK fl_X5_13 dX5_put_14 zo_10 zf_5_1 ?_
    refine j_lload_n hK dX5_put_17 1 rfl rfl ?_
    obtain ⟨hi1, hf⟩ := gd hf
    refine k_last hK dX5_put_18 zb_11 hi1 rfl ?_
    refine lt_S hf (fun S2 hf => ?_)
    refine j_aload_n hK dX5_put_19 0 rfl rfl ?_
    refine j_pc (pc' := 20) rfl ?_
    refine j_dup hK dX5_put_20 rfl ?_
    refine j_getI hK fl_X5_13 dX5_put_21 zo_10 zf_5_1 ?_
    refine j_iconst hK (1 : Int32) dX5_put_24 ic_1 ?_
    refine j_iadd hK dX5_put_25 ?_
    refine j_putI hK fl_X5_13 dX5_put_26 zo_10 zf_5_1 ?_
    refine lt_S hf (fun S3 hf => ?_)
    exact j_vret hK dX5_put_29 rfl (rt_V hA hf)
def f_X5_at (p1 : Int32) (S : St) : Option (Int64 × St) := (if p1 < 0 then some ((0 : Int64), S) else (if (gI S 10 1) ≤ p1 then some ((0 : Int64), S) else if inb p1 16 then some ((gL S 11 p1.toNatClampNeg), S) else none))
theorem c_X5_at {p1 : Int32} {S : St} {r : Int64} {S' : St} (hf : f_X5_at p1 S = some (r, S')) : zM yX5_at cX5_at 2 1 (some .long) [.ref 10, .int p1] S (some (.long r)) S' := by
  refine zM_of (zpl (by decide)) (Nat.le_of_ble_eq_true rfl) rfl (fun K hK hA => ?_)
  unfold f_X5_at at hf
  refine j_iload_n hK dX5_at_0 1 rfl rfl ?_
  refine j_if_lt hK 21 dX5_at_1 (by decide) (fun hc => ?_) (fun hc => ?_)
  · replace hf := if_1 hc hf
    refine j_lconst hK (0 : Int64) dX5_at_21 lc_0 ?_
    exact j_lret hK dX5_at_22 rfl (rt_L hA hf)
  · replace hf := if_2 hc hf
    refine j_iload_n hK dX5_at_4 1 rfl rfl ?_
    refine j_aload_n hK dX5_at_5 0 rfl rfl ?_
    refine j_getI hK fl_X5_13 dX5_at_6 zo_10 zf_5_1 ?_
    refine j_icmp_ge hK 21 dX5_at_9 (by decide) (fun hc => ?_) (fun hc => ?_)
    · replace hf := if_1 hc hf
      refine j_lconst hK (0 : Int64) dX5_at_21 lc_0 ?_
      exact j_lret hK dX5_at_22 rfl (rt_L hA hf)
    · replace hf := if_2 hc hf
      refine j_aload_n hK dX5_at_12 0 rfl rfl ?_
      refine j_getR hK fl_X5_9 dX5_at_13 zo_10 zf_5_0 zr_10_0 ?_
      refine j_iload_n hK dX5_at_16 1 rfl rfl ?_
      obtain ⟨hi1, hf⟩ := gd hf
      refine k_lald hK dX5_at_17 zb_11 hi1 rfl ?_
      refine j_goto hK 22 dX5_at_18 (by decide) ?_
      exact j_lret hK dX5_at_22 rfl (rt_L hA hf)
