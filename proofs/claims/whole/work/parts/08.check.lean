def f_J0_checkIndex_df160 (p0 p1 : Int32) (S : St) : Option (Unit × St) := if p0 < 0 then none else if p0 < p1 then some ((), S) else none
theorem c_J3_ck {p0 p1 : Int32} {v : Value} (hv : v = .null ∨ v = .ref 1020) (h0 : ¬ p0 < 0) (h1 : p0 < p1) {S : St} : zM yJ3_checkIndex_8e157 cJ3_checkIndex_8e157 3 1 (some .int) [.int p0, .int p1, v] S (some (.int p0)) S := by
  rcases hv with rfl | rfl
  all_goals
    refine zM_of (zpl (by decide)) (Nat.le_of_ble_eq_true rfl) rfl (fun K hK hA => ?_)
    refine j_iload_n hK dJ3_checkIndex_8e157_0 0 rfl rfl ?_
    refine j_if_lt hK 9 dJ3_checkIndex_8e157_1 (by decide) (fun hc => absurd hc h0) (fun hc => ?_)
    refine j_iload_n hK dJ3_checkIndex_8e157_4 0 rfl rfl ?_
    refine j_iload_n hK dJ3_checkIndex_8e157_5 1 rfl rfl ?_
    refine j_icmp_lt hK 16 dJ3_checkIndex_8e157_6 (by decide) (fun hc => ?_) (fun hc => absurd h1 hc)
    refine j_iload_n hK dJ3_checkIndex_8e157_16 0 rfl rfl ?_
    exact j_iret hK dJ3_checkIndex_8e157_17 rfl hA
theorem c_J0_checkIndex_df160 {p0 p1 : Int32} {S : St} {r : Unit} {S' : St} (hf : f_J0_checkIndex_df160 p0 p1 S = some (r, S')) : zM yJ0_checkIndex_df160 cJ0_checkIndex_df160 2 2 none [.int p0, .int p1] S none S' := by
  unfold f_J0_checkIndex_df160 at hf
  by_cases h0 : p0 < 0
  · rw [if_pos h0] at hf; cases hf
  · rw [if_neg h0] at hf
    obtain ⟨h1, hf⟩ := gd hf
    cases hf
    refine zM_of (zpl (by decide)) (Nat.le_of_ble_eq_true rfl) rfl (fun K hK hA => ?_)
    refine j_iload_n hK dJ0_checkIndex_df160_0 0 rfl rfl ?_
    refine j_iload_n hK dJ0_checkIndex_df160_1 1 rfl rfl ?_
    refine j_gsF hK fj_1053 dJ0_checkIndex_df160_2 (fun v hv => ?_)
    refine k_callSi hK (c_J3_ck hv h0 h1) dJ0_checkIndex_df160_5 ml_J0_1059 ms_J3_checkIndex_8e157 in_J3 mc_J3_checkIndex_8e157 hy_J3_checkIndex_8e157 ⟨by decide, by decide⟩ rfl (Nat.le_of_ble_eq_true rfl) ?_
    refine j_pop hK dJ0_checkIndex_df160_8 rfl ?_
    exact j_vret hK dJ0_checkIndex_df160_9 rfl hA
