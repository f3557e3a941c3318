def f_X11_readsThing (gf_X11_readsThing : St → Option (Int32 × St)) (gf_X11_readsRank : Int32 → St → Option (Int32 × St)) (S : St) : Option (Int32 × St) := bd (f_X11_takes (45 : Int32) S) (fun r1 S2 => (if r1 = 0 then bd (f_X11_isDigit S2) (fun r4 S5 => (if r4 = 0 then bd (f_X11_takesOf 0 S5) (fun r7 S8 => (if r7 < 0 then (if (gI S8 122 13) = (4 : Int32) then some ((0 : Int32), S8) else bd (f_X11_takes (40 : Int32) S8) (fun r10 S11 => (if r10 = 0 then some ((0 : Int32), S11) else lt (sI S11 122 13 ((gI S11 122 13) + (1 : Int32))) (fun S13 => bd (gf_X11_readsRank (0 : Int32) S13) (fun r14 S15 => (if r14 = 0 then some ((0 : Int32), S15) else bd (f_X11_takes (41 : Int32) S15) (fun r17 S18 => (if r17 = 0 then some ((0 : Int32), S18) else lt (sI S18 122 13 ((gI S18 122 13) - (1 : Int32))) (fun S20 => some ((1 : Int32), S20)))))))))) else bd (f_X11_codes ((1000 : Int32) + r7) S8) (fun r21 S22 => some ((1 : Int32), S22)))) else bd (f_X11_number (3 : Int32) S5) (fun r24 S25 => bd (f_X11_codes r24 S25) (fun r27 S28 => some ((1 : Int32), S28))))) else bd (gf_X11_readsThing S2) (fun r30 S31 => bd (f_X11_codes (3000 : Int32) S31) (fun r33 S34 => if r30 = 0 ∨ r30 = 1 then some (r30, S34) else none))))
theorem c_X11_readsThing {dd : Nat} {gf_X11_readsThing : St → Option (Int32 × St)} {gf_X11_readsRank : Int32 → St → Option (Int32 × St)} (hg_X11_readsThing : ∀ {S0 : St} {r0 : Int32} {S1 : St}, gf_X11_readsThing  S0 = some (r0, S1) → zM yX11_readsThing cX11_readsThing 2 (dd + 39) (some .boolean) [.ref 122] S0 (some (.int r0)) S1) (hg_X11_readsRank : ∀ {q0 : Int32} {S0 : St} {r0 : Int32} {S1 : St}, gf_X11_readsRank q0 S0 = some (r0, S1) → zM yX11_readsRank cX11_readsRank 4 (dd + 39) (some .boolean) [.ref 122, .int q0] S0 (some (.int r0)) S1) {S : St} {r : Int32} {S' : St} (hf : f_X11_readsThing gf_X11_readsThing gf_X11_readsRank S = some (r, S')) : zM yX11_readsThing cX11_readsThing 2 (dd + 40) (some .boolean) [.ref 122] S (some (.int r)) S' := by
  refine zM_of (zpl (by decide)) (Nat.le_of_ble_eq_true rfl) rfl (fun K hK hA => ?_)
  unfold f_X11_readsThing at hf
  refine j_aload_n hK dX11_readsThing_0 0 rfl rfl ?_
  refine j_bipush hK (45 : Int32) dX11_readsThing_1 bi_45 ?_
  obtain ⟨r1, S2, h3, hf⟩ := bd_J hf
  refine k_callVi hK (c_X11_takes h3) dX11_readsThing_3 zclX11 zo_122 ml_X11_198 mi_X11_takes mx_X11_takes in_X11 mc_X11_takes hy_X11_takes ⟨by omega, by decide⟩ rfl (Nat.le_of_ble_eq_true rfl) ?_
  refine j_if_eq hK 23 dX11_readsThing_6 (by decide) (fun hc => ?_) (fun hc => ?_)
  · replace hf := if_1 hc hf
    refine j_aload_n hK dX11_readsThing_23 0 rfl rfl ?_
    obtain ⟨r4, S5, h6, hf⟩ := bd_J hf
    refine k_callVi hK (c_X11_isDigit h6) dX11_readsThing_24 zclX11 zo_122 ml_X11_177 mi_X11_isDigit mx_X11_isDigit in_X11 mc_X11_isDigit hy_X11_isDigit ⟨by omega, by decide⟩ rfl (Nat.le_of_ble_eq_true rfl) ?_
    refine j_if_eq hK 41 dX11_readsThing_27 (by decide) (fun hc => ?_) (fun hc => ?_)
    · replace hf := if_1 hc hf
      refine j_aload_n hK dX11_readsThing_41 0 rfl rfl ?_
      refine j_ldcS (i := 0) hK (fun _ _ _ h => h.1.2.2.2.2.2.2.1) dX11_readsThing_42 ?_
      obtain ⟨r7, S8, h9, hf⟩ := bd_J hf
      refine k_callVi hK (c_X11_takesOf (by decide) h9) dX11_readsThing_44 zclX11 zo_122 ml_X11_224 mi_X11_takesOf mx_X11_takesOf in_X11 mc_X11_takesOf hy_X11_takesOf ⟨by omega, by decide⟩ rfl (Nat.le_of_ble_eq_true rfl) ?_
      refine j_istore_n hK (L' := [(1, .int r7), (0, .ref 122)]) dX11_readsThing_47 rfl (by decide) rfl ?_
      refine j_iload_n hK dX11_readsThing_48 0 rfl rfl ?_
      refine j_if_lt hK 63 dX11_readsThing_49 (by decide) (fun hc => ?_) (fun hc => ?_)
      · replace hf := if_1 hc hf
        refine j_aload_n hK dX11_readsThing_63 1 rfl rfl ?_
        refine j_getI hK fl_X11_143 dX11_readsThing_64 zo_122 zf_11_13 ?_
        refine j_iconst hK (4 : Int32) dX11_readsThing_67 ic_4 ?_
        refine j_icmp_eq hK 80 dX11_readsThing_68 (by decide) (fun hc => ?_) (fun hc => ?_)
        · replace hf := if_1 hc hf
          refine j_iconst hK (0 : Int32) dX11_readsThing_80 ic_0 ?_
          exact j_zret hK dX11_readsThing_81 rfl rfl (rt_I hA hf)
        · replace hf := if_2 hc hf
          refine j_aload_n hK dX11_readsThing_71 1 rfl rfl ?_
          refine j_bipush hK (40 : Int32) dX11_readsThing_72 bi_40 ?_
          obtain ⟨r10, S11, h12, hf⟩ := bd_J hf
          refine k_callVi hK (c_X11_takes h12) dX11_readsThing_74 zclX11 zo_122 ml_X11_198 mi_X11_takes mx_X11_takes in_X11 mc_X11_takes hy_X11_takes ⟨by omega, by decide⟩ rfl (Nat.le_of_ble_eq_true rfl) ?_
          refine j_if_ne hK 82 dX11_readsThing_77 (by decide) (fun hc => ?_) (fun hc => ?_)
          · replace hf := if_2 hc hf
            refine j_aload_n hK dX11_readsThing_82 1 rfl rfl ?_
            refine j_dup hK dX11_readsThing_83 rfl ?_
            refine j_getI hK fl_X11_143 dX11_readsThing_84 zo_122 zf_11_13 ?_
            refine j_iconst hK (1 : Int32) dX11_readsThing_87 ic_1 ?_
            refine j_iadd hK dX11_readsThing_88 ?_
            refine j_putI hK fl_X11_143 dX11_readsThing_89 zo_122 zf_11_13 ?_
            refine lt_S hf (fun S13 hf => ?_)
            refine j_aload_n hK dX11_readsThing_92 1 rfl rfl ?_
            refine j_pc (pc' := 93) rfl ?_
            refine j_iconst hK (0 : Int32) dX11_readsThing_93 ic_0 ?_
            obtain ⟨r14, S15, h16, hf⟩ := bd_J hf
            refine k_callVi hK (hg_X11_readsRank h16) dX11_readsThing_94 zclX11 zo_122 ml_X11_228 mi_X11_readsRank mx_X11_readsRank in_X11 mc_X11_readsRank hy_X11_readsRank ⟨by omega, by decide⟩ rfl (Nat.le_of_ble_eq_true rfl) ?_
            refine j_if_eq hK 109 dX11_readsThing_97 (by decide) (fun hc => ?_) (fun hc => ?_)
            · replace hf := if_1 hc hf
              refine j_iconst hK (0 : Int32) dX11_readsThing_109 ic_0 ?_
              exact j_zret hK dX11_readsThing_110 rfl rfl (rt_I hA hf)
            · replace hf := if_2 hc hf
              refine j_aload_n hK dX11_readsThing_100 1 rfl rfl ?_
              refine j_bipush hK (41 : Int32) dX11_readsThing_101 bi_41 ?_
              obtain ⟨r17, S18, h19, hf⟩ := bd_J hf
              refine k_callVi hK (c_X11_takes h19) dX11_readsThing_103 zclX11 zo_122 ml_X11_198 mi_X11_takes mx_X11_takes in_X11 mc_X11_takes hy_X11_takes ⟨by omega, by decide⟩ rfl (Nat.le_of_ble_eq_true rfl) ?_
              refine j_if_ne hK 111 dX11_readsThing_106 (by decide) (fun hc => ?_) (fun hc => ?_)
              · replace hf := if_2 hc hf
                refine j_aload_n hK dX11_readsThing_111 1 rfl rfl ?_
                refine j_dup hK dX11_readsThing_112 rfl ?_
                refine j_getI hK fl_X11_143 dX11_readsThing_113 zo_122 zf_11_13 ?_
                refine j_iconst hK (1 : Int32) dX11_readsThing_116 ic_1 ?_
                refine j_isub hK dX11_readsThing_117 ?_
                refine j_putI hK fl_X11_143 dX11_readsThing_118 zo_122 zf_11_13 ?_
                refine lt_S hf (fun S20 hf => ?_)
                refine j_iconst hK (1 : Int32) dX11_readsThing_121 ic_1 ?_
                refine j_pc (pc' := 122) rfl ?_
                exact j_zret hK dX11_readsThing_122 rfl rfl (rt_I hA hf)
              · replace hf := if_1 hc hf
                refine j_iconst hK (0 : Int32) dX11_readsThing_109 ic_0 ?_
                exact j_zret hK dX11_readsThing_110 rfl rfl (rt_I hA hf)
          · replace hf := if_1 hc hf
            refine j_iconst hK (0 : Int32) dX11_readsThing_80 ic_0 ?_
            exact j_zret hK dX11_readsThing_81 rfl rfl (rt_I hA hf)
      · replace hf := if_2 hc hf
        refine j_aload_n hK dX11_readsThing_52 1 rfl rfl ?_
        refine j_sipush hK (1000 : Int32) dX11_readsThing_53 si_1000 ?_
        refine j_iload_n hK dX11_readsThing_56 0 rfl rfl ?_
        refine j_iadd hK dX11_readsThing_57 ?_
        obtain ⟨r21, S22, h23, hf⟩ := bd_J hf
        refine k_callVv hK (c_X11_codes h23) dX11_readsThing_58 zclX11 zo_122 ml_X11_218 mi_X11_codes mx_X11_codes in_X11 mc_X11_codes hy_X11_codes ⟨by omega, by decide⟩ rfl (Nat.le_of_ble_eq_true rfl) ?_
        refine j_iconst hK (1 : Int32) dX11_readsThing_61 ic_1 ?_
        exact j_zret hK dX11_readsThing_62 rfl rfl (rt_I hA hf)
    · replace hf := if_2 hc hf
      refine j_aload_n hK dX11_readsThing_30 0 rfl rfl ?_
      refine j_aload_n hK dX11_readsThing_31 0 rfl rfl ?_
      refine j_iconst hK (3 : Int32) dX11_readsThing_32 ic_3 ?_
      obtain ⟨r24, S25, h26, hf⟩ := bd_J hf
      refine k_callVi hK (c_X11_number h26) dX11_readsThing_33 zclX11 zo_122 ml_X11_188 mi_X11_number mx_X11_number in_X11 mc_X11_number hy_X11_number ⟨by omega, by decide⟩ rfl (Nat.le_of_ble_eq_true rfl) ?_
      obtain ⟨r27, S28, h29, hf⟩ := bd_J hf
      refine k_callVv hK (c_X11_codes h29) dX11_readsThing_36 zclX11 zo_122 ml_X11_218 mi_X11_codes mx_X11_codes in_X11 mc_X11_codes hy_X11_codes ⟨by omega, by decide⟩ rfl (Nat.le_of_ble_eq_true rfl) ?_
      refine j_iconst hK (1 : Int32) dX11_readsThing_39 ic_1 ?_
      exact j_zret hK dX11_readsThing_40 rfl rfl (rt_I hA hf)
  · replace hf := if_2 hc hf
    refine j_aload_n hK dX11_readsThing_9 0 rfl rfl ?_
    obtain ⟨r30, S31, h32, hf⟩ := bd_J hf
    refine k_callVi hK (hg_X11_readsThing h32) dX11_readsThing_10 zclX11 zo_122 ml_X11_215 mi_X11_readsThing mx_X11_readsThing in_X11 mc_X11_readsThing hy_X11_readsThing ⟨by omega, by decide⟩ rfl (Nat.le_of_ble_eq_true rfl) ?_
    refine j_istore_n hK (L' := [(1, .int r30), (0, .ref 122)]) dX11_readsThing_13 rfl (by decide) rfl ?_
    refine j_aload_n hK dX11_readsThing_14 1 rfl rfl ?_
    refine j_sipush hK (3000 : Int32) dX11_readsThing_15 si_3000 ?_
    obtain ⟨r33, S34, h35, hf⟩ := bd_J hf
    refine k_callVv hK (c_X11_codes h35) dX11_readsThing_18 zclX11 zo_122 ml_X11_218 mi_X11_codes mx_X11_codes in_X11 mc_X11_codes hy_X11_codes ⟨by omega, by decide⟩ rfl (Nat.le_of_ble_eq_true rfl) ?_
    refine j_iload_n hK dX11_readsThing_21 0 rfl rfl ?_
    refine j_pc (pc' := 22) rfl ?_
    obtain ⟨hz, hf⟩ := gd hf
    exact j_zret hK dX11_readsThing_22 rfl (nz hz) (rt_I hA hf)
def F_rr : Nat → (St → Option (Int32 × St)) × (Int32 → St → Option (Int32 × St))
  | 0 => (fun _ => none, fun _ _ => none)
  | n + 1 => (f_X11_readsThing (F_rr n).1 (F_rr n).2, f_X11_readsRank (F_rr n).1 (F_rr n).2)
def F_X11_readsThing (n : Nat) : St → Option (Int32 × St) := (F_rr n).1
def F_X11_readsRank (n : Nat) : Int32 → St → Option (Int32 × St) := (F_rr n).2
theorem C_rr : ∀ (n : Nat), (∀ {S : St} {r : Int32} {S' : St}, (F_rr n).1 S = some (r, S') → zM yX11_readsThing cX11_readsThing 2 (n + 39) (some .boolean) [.ref 122] S (some (.int r)) S') ∧ (∀ {p1 : Int32} {S : St} {r : Int32} {S' : St}, (F_rr n).2 p1 S = some (r, S') → zM yX11_readsRank cX11_readsRank 4 (n + 39) (some .boolean) [.ref 122, .int p1] S (some (.int r)) S')
  | 0 => ⟨fun hf => (by cases hf), fun hf => (by cases hf)⟩
  | n + 1 => ⟨fun hf => c_X11_readsThing (dd := n) (C_rr n).1 (C_rr n).2 hf, fun hf => c_X11_readsRank (dd := n) (C_rr n).1 (C_rr n).2 hf⟩
theorem C_X11_readsThing (n : Nat) {S : St} {r : Int32} {S' : St} (hf : F_X11_readsThing n S = some (r, S')) : zM yX11_readsThing cX11_readsThing 2 (n + 39) (some .boolean) [.ref 122] S (some (.int r)) S' := (C_rr n).1 hf
theorem C_X11_readsRank (n : Nat) {p1 : Int32} {S : St} {r : Int32} {S' : St} (hf : F_X11_readsRank n p1 S = some (r, S')) : zM yX11_readsRank cX11_readsRank 4 (n + 39) (some .boolean) [.ref 122, .int p1] S (some (.int r)) S' := (C_rr n).2 hf
def f_X11_readsRule_29 (x1 : Int32) (s0 : Int32) (S : St) : Option (Int32 × St) := bd (f_X11_faultOf x1 (40 : Int32) s0 S) (fun r1 S2 => some (r1, S2))
theorem t_X11_readsRule_29 {K : CT} (hK : KO K cX11_readsRule RX11 3 141 (some .int)) {r : Int32} {S' : St} (hA : zans K (some (.int r), S')) {x1 : Int32} {s0 : Int32} {S : St} (hf : f_X11_readsRule_29 x1 s0 S = some (r, S')) : J K 29 [(0, .ref 122), (1, .int x1)] [.int s0] S := by
  unfold f_X11_readsRule_29 at hf
  refine j_istore_n hK (L' := [(2, .int s0), (0, .ref 122), (1, .int x1)]) dX11_readsRule_29 rfl (by decide) rfl ?_
  refine j_aload_n hK dX11_readsRule_30 1 rfl rfl ?_
  refine j_iload_n hK dX11_readsRule_31 2 rfl rfl ?_
  refine j_bipush hK (40 : Int32) dX11_readsRule_32 bi_40 ?_
  refine j_iload_n hK dX11_readsRule_34 0 rfl rfl ?_
  obtain ⟨r1, S2, h3, hf⟩ := bd_J hf
  refine k_callVi hK (c_X11_faultOf h3) dX11_readsRule_35 zclX11 zo_122 ml_X11_202 mi_X11_faultOf mx_X11_faultOf in_X11 mc_X11_faultOf hy_X11_faultOf ⟨by decide, by decide⟩ rfl (Nat.le_of_ble_eq_true rfl) ?_
  exact j_iret hK dX11_readsRule_38 rfl (rt_I hA hf)
def f_X11_readsRule_24 (x1 : Int32) (S : St) : Option (Int32 × St) := f_X11_readsRule_29 x1 (1 : Int32) S
theorem t_X11_readsRule_24 {K : CT} (hK : KO K cX11_readsRule RX11 3 141 (some .int)) {r : Int32} {S' : St} (hA : zans K (some (.int r), S')) {x1 : Int32} {S : St} (hf : f_X11_readsRule_24 x1 S = some (r, S')) : J K 24 [(0, .ref 122), (1, .int x1)] [] S := by
  unfold f_X11_readsRule_24 at hf
  refine j_iconst hK (1 : Int32) dX11_readsRule_24 ic_1 ?_
  refine j_goto hK 29 dX11_readsRule_25 (by decide) ?_
  exact t_X11_readsRule_29 hK hA  hf
def f_X11_readsRule (S : St) : Option (Int32 × St) := bd (f_X11_begins (40 : Int32) S) (fun r4 S5 => lt (sI S5 122 19 (0 : Int32)) (fun S7 => (if r4 = 0 then f_X11_readsRule_24 r4 S7 else bd (F_X11_readsRank 100 (0 : Int32) S7) (fun r8 S9 => (if r8 = 0 then f_X11_readsRule_29 r4 (0 : Int32) S9 else f_X11_readsRule_24 r4 S9)))))
theorem c_X11_readsRule {S : St} {r : Int32} {S' : St} (hf : f_X11_readsRule S = some (r, S')) : zM yX11_readsRule cX11_readsRule 3 141 (some .int) [.ref 122] S (some (.int r)) S' := by
  refine zM_of (zpl (by decide)) (Nat.le_of_ble_eq_true rfl) rfl (fun K hK hA => ?_)
  unfold f_X11_readsRule at hf
  refine j_aload_n hK dX11_readsRule_0 0 rfl rfl ?_
  refine j_bipush hK (40 : Int32) dX11_readsRule_1 bi_40 ?_
  obtain ⟨r4, S5, h6, hf⟩ := bd_J hf
  refine k_callVi hK (c_X11_begins h6) dX11_readsRule_3 zclX11 zo_122 ml_X11_192 mi_X11_begins mx_X11_begins in_X11 mc_X11_begins hy_X11_begins ⟨by decide, by decide⟩ rfl (Nat.le_of_ble_eq_true rfl) ?_
  refine j_istore_n hK (L' := [(1, .int r4), (0, .ref 122)]) dX11_readsRule_6 rfl (by decide) rfl ?_
  refine j_aload_n hK dX11_readsRule_7 1 rfl rfl ?_
  refine j_iconst hK (0 : Int32) dX11_readsRule_8 ic_0 ?_
  refine j_putI hK fl_X11_212 dX11_readsRule_9 zo_122 zf_11_19 ?_
  refine lt_S hf (fun S7 hf => ?_)
  refine j_iload_n hK dX11_readsRule_12 0 rfl rfl ?_
  refine j_pc (pc' := 13) rfl ?_
  refine j_if_eq hK 24 dX11_readsRule_13 (by decide) (fun hc => ?_) (fun hc => ?_)
  · replace hf := if_1 hc hf
    refine j_sub [1, 0] rfl ?_
    exact t_X11_readsRule_24 hK hA  hf
  · replace hf := if_2 hc hf
    refine j_aload_n hK dX11_readsRule_16 1 rfl rfl ?_
    refine j_iconst hK (0 : Int32) dX11_readsRule_17 ic_0 ?_
    obtain ⟨r8, S9, h10, hf⟩ := bd_J hf
    refine k_callVi hK (C_X11_readsRank 100 h10) dX11_readsRule_18 zclX11 zo_122 ml_X11_228 mi_X11_readsRank mx_X11_readsRank in_X11 mc_X11_readsRank hy_X11_readsRank ⟨by decide, by decide⟩ rfl (Nat.le_of_ble_eq_true rfl) ?_
    refine j_if_eq hK 28 dX11_readsRule_21 (by decide) (fun hc => ?_) (fun hc => ?_)
    · replace hf := if_1 hc hf
      refine j_iconst hK (0 : Int32) dX11_readsRule_28 ic_0 ?_
      refine j_sub [1, 0] rfl ?_
      exact t_X11_readsRule_29 hK hA  hf
    · replace hf := if_2 hc hf
      refine j_sub [1, 0] rfl ?_
      exact t_X11_readsRule_24 hK hA  hf
def f_X11_laysCode_7b (ar : Nat) (x2 : Int32) (e : Int32 → St → Option (Unit × St)) (k : Int32 → St → Option (Unit × St)) (v : Int32) (S : St) : Option (Unit × St) := (if x2 ≤ v then e v S else if inb v 80 then if inb v 80 then lt (sI S 130 v.toNatClampNeg (gI S ar v.toNatClampNeg)) (fun S3 => k (v + (1 : Int32)) S3) else none else none)
theorem t_X11_laysCode_7 {K : CT} (hK : KO K cX11_laysCode RX11 4 1 none) {r : Unit} {S' : St} (hA : zans K (none, S')) {ar : Nat} (har : zB 12 80 ar) {x2 : Int32} {e : Int32 → St → Option (Unit × St)} (he : ∀ (v : Int32) (S : St), e v S = some (r, S') → J K 27 [] [] S) : ∀ (n : Nat) (v : Int32) (S : St), lp (f_X11_laysCode_7b ar x2 e) n v S = some (r, S') → J K 7 [(0, .ref 122), (1, .ref ar), (2, .int x2), (3, .int v)] [] S :=
  lp_J (P := fun (v : Int32) (S : St) => J K 7 [(0, .ref 122), (1, .ref ar), (2, .int x2), (3, .int v)] [] S) (fun k hk v S hf => by
    unfold f_X11_laysCode_7b at hf
    refine j_iload_n hK dX11_laysCode_7 3 rfl rfl ?_
    refine j_iload_n hK dX11_laysCode_8 2 rfl rfl ?_
    refine j_icmp_ge hK 27 dX11_laysCode_9 (by decide) (fun hc => ?_) (fun hc => ?_)
    · replace hf := if_1 hc hf
      refine j_sub [] rfl ?_
      exact he _ _ hf
    · replace hf := if_2 hc hf
      refine j_aload_n hK dX11_laysCode_12 0 rfl rfl ?_
      refine j_getR hK fl_X11_43 dX11_laysCode_13 zo_122 zf_11_16 zr_122_16 ?_
      refine j_iload_n hK dX11_laysCode_16 3 rfl rfl ?_
      refine j_aload_n hK dX11_laysCode_17 1 rfl rfl ?_
      refine j_iload_n hK dX11_laysCode_18 3 rfl rfl ?_
      obtain ⟨hi1, hf⟩ := gd hf
      refine k_iald hK dX11_laysCode_19 har hi1 rfl ?_
      obtain ⟨hi2, hf⟩ := gd hf
      refine k_iast hK dX11_laysCode_20 zb_130 hi2 rfl ?_
      refine lt_S hf (fun S3 hf => ?_)
      refine j_pc (pc' := 21) rfl ?_
      refine j_iinc hK (L' := [(3, .int (v + (1 : Int32))), (0, .ref 122), (1, .ref ar), (2, .int x2)]) dX11_laysCode_21 3 rfl (congrArg (fun y => v + y) ic_1) (by decide) rfl ?_
      refine j_goto hK 7 dX11_laysCode_24 (by decide) ?_
      refine j_sub [1, 2, 3, 0] rfl ?_
      exact hk _ _ hf)
def f_X11_laysCode (ar : Nat) (p2 : Int32) (S : St) : Option (Unit × St) := lt (sI S 122 18 p2) (fun S4 => lp (f_X11_laysCode_7b ar p2 (fun v5 S6 => some ((), S6))) FU (0 : Int32) S4)
theorem c_X11_laysCode {ar : Nat} (har : zB 12 80 ar) {p2 : Int32} {S : St} {r : Unit} {S' : St} (hf : f_X11_laysCode ar p2 S = some (r, S')) : zM yX11_laysCode cX11_laysCode 4 1 none [.ref 122, .ref ar, .int p2] S (none) S' := by
  refine zM_of (zpl (by decide)) (Nat.le_of_ble_eq_true rfl) rfl (fun K hK hA => ?_)
  unfold f_X11_laysCode at hf
  refine j_aload_n hK dX11_laysCode_0 0 rfl rfl ?_
  refine j_iload_n hK dX11_laysCode_1 2 rfl rfl ?_
  refine j_putI hK fl_X11_237 dX11_laysCode_2 zo_122 zf_11_18 ?_
  refine lt_S hf (fun S4 hf => ?_)
  refine j_iconst hK (0 : Int32) dX11_laysCode_5 ic_0 ?_
  refine j_istore_n hK (L' := [(3, .int (0 : Int32)), (0, .ref 122), (1, .ref ar), (2, .int p2)]) dX11_laysCode_6 rfl (by decide) rfl ?_
  refine j_sub [1, 2, 3, 0] rfl ?_
  refine t_X11_laysCode_7 hK hA har (fun v5 S6 hf => ?_) _ _ _ hf
  exact j_vret hK dX11_laysCode_27 rfl (rt_V hA hf)
def f_X11_rule (S : St) : Option (Int32 × St) := lt (sI S 122 0 (0 : Int32)) (fun S1 => bd (f_X11_readsRule S1) (fun r2 S3 => (if r2 = 0 then bd (f_X11_laysCode 131 (gI S3 122 19) S3) (fun r5 S6 => some (r2, S6)) else some (r2, S3))))
theorem c_X11_rule {S : St} {r : Int32} {S' : St} (hf : f_X11_rule S = some (r, S')) : zM yX11_rule cX11_rule 2 142 (some .int) [.ref 122] S (some (.int r)) S' := by
  refine zM_of (zpl (by decide)) (Nat.le_of_ble_eq_true rfl) rfl (fun K hK hA => ?_)
  unfold f_X11_rule at hf
  refine j_aload_n hK dX11_rule_0 0 rfl rfl ?_
  refine j_iconst hK (0 : Int32) dX11_rule_1 ic_0 ?_
  refine j_putI hK fl_X11_3 dX11_rule_2 zo_122 zf_11_0 ?_
  refine lt_S hf (fun S1 hf => ?_)
  refine j_aload_n hK dX11_rule_5 0 rfl rfl ?_
  obtain ⟨r2, S3, h4, hf⟩ := bd_J hf
  refine k_callVi hK (c_X11_readsRule h4) dX11_rule_6 zclX11 zo_122 ml_X11_240 mi_X11_readsRule mx_X11_readsRule in_X11 mc_X11_readsRule hy_X11_readsRule ⟨by decide, by decide⟩ rfl (Nat.le_of_ble_eq_true rfl) ?_
  refine j_istore_n hK (L' := [(1, .int r2), (0, .ref 122)]) dX11_rule_9 rfl (by decide) rfl ?_
  refine j_iload_n hK dX11_rule_10 0 rfl rfl ?_
  refine j_if_ne hK 26 dX11_rule_11 (by decide) (fun hc => ?_) (fun hc => ?_)
  · replace hf := if_2 hc hf
    refine j_iload_n hK dX11_rule_26 0 rfl rfl ?_
    exact j_iret hK dX11_rule_27 rfl (rt_I hA hf)
  · replace hf := if_1 hc hf
    refine j_aload_n hK dX11_rule_14 1 rfl rfl ?_
    refine j_aload_n hK dX11_rule_15 1 rfl rfl ?_
    refine j_getR hK fl_X11_46 dX11_rule_16 zo_122 zf_11_17 zr_122_17 ?_
    refine j_aload_n hK dX11_rule_19 1 rfl rfl ?_
    refine j_getI hK fl_X11_212 dX11_rule_20 zo_122 zf_11_19 ?_
    obtain ⟨r5, S6, h7, hf⟩ := bd_J hf
    refine k_callVv hK (c_X11_laysCode zb_131 h7) dX11_rule_23 zclX11 zo_122 ml_X11_243 mi_X11_laysCode mx_X11_laysCode in_X11 mc_X11_laysCode hy_X11_laysCode ⟨by decide, by decide⟩ rfl (Nat.le_of_ble_eq_true rfl) ?_
    refine j_iload_n hK dX11_rule_26 0 rfl rfl ?_
    refine j_pc (pc' := 27) rfl ?_
    exact j_iret hK dX11_rule_27 rfl (rt_I hA hf)
def f_X11_worked_78 (s0 : Int32) (S : St) : Option (Int32 × St) := bd (f_X11_flag s0 S) (fun r1 S2 => some (r1, S2))
theorem t_X11_worked_78 {K : CT} (hK : KO K cX11_worked RX11 3 2 (some .int)) {r : Int32} {S' : St} (hA : zans K (some (.int r), S')) {s0 : Int32} {S : St} (hf : f_X11_worked_78 s0 S = some (r, S')) : J K 78 [] [.int s0] S := by
  unfold f_X11_worked_78 at hf
  obtain ⟨r1, S2, h3, hf⟩ := bd_J hf
  refine k_callSi hK (c_X11_flag h3) dX11_worked_78 ml_X11_155 ms_X11_flag in_X11 mc_X11_flag hy_X11_flag ⟨by decide, by decide⟩ rfl (Nat.le_of_ble_eq_true rfl) ?_
  exact j_iret hK dX11_worked_81 rfl (rt_I hA hf)
def f_X11_worked_64 (s0 : Int32) (S : St) : Option (Int32 × St) := bd (f_X11_flag s0 S) (fun r4 S5 => some (r4, S5))
theorem t_X11_worked_64 {K : CT} (hK : KO K cX11_worked RX11 3 2 (some .int)) {r : Int32} {S' : St} (hA : zans K (some (.int r), S')) {s0 : Int32} {S : St} (hf : f_X11_worked_64 s0 S = some (r, S')) : J K 64 [] [.int s0] S := by
  unfold f_X11_worked_64 at hf
  obtain ⟨r4, S5, h6, hf⟩ := bd_J hf
  refine k_callSi hK (c_X11_flag h6) dX11_worked_64 ml_X11_155 ms_X11_flag in_X11 mc_X11_flag hy_X11_flag ⟨by decide, by decide⟩ rfl (Nat.le_of_ble_eq_true rfl) ?_
  exact j_iret hK dX11_worked_67 rfl (rt_I hA hf)
def f_X11_worked_50 (s0 : Int32) (S : St) : Option (Int32 × St) := bd (f_X11_flag s0 S) (fun r7 S8 => some (r7, S8))
theorem t_X11_worked_50 {K : CT} (hK : KO K cX11_worked RX11 3 2 (some .int)) {r : Int32} {S' : St} (hA : zans K (some (.int r), S')) {s0 : Int32} {S : St} (hf : f_X11_worked_50 s0 S = some (r, S')) : J K 50 [] [.int s0] S := by
  unfold f_X11_worked_50 at hf
  obtain ⟨r7, S8, h9, hf⟩ := bd_J hf
  refine k_callSi hK (c_X11_flag h9) dX11_worked_50 ml_X11_155 ms_X11_flag in_X11 mc_X11_flag hy_X11_flag ⟨by decide, by decide⟩ rfl (Nat.le_of_ble_eq_true rfl) ?_
  exact j_iret hK dX11_worked_53 rfl (rt_I hA hf)
def f_X11_worked (p0 : Int32) (p1 : Int32) (p2 : Int32) (S : St) : Option (Int32 × St) := (if p0 = (0 : Int32) then (if p2 ≤ p1 then f_X11_worked_50 (0 : Int32) S else f_X11_worked_50 (1 : Int32) S) else (if p0 = (1 : Int32) then (if p1 ≤ p2 then f_X11_worked_64 (0 : Int32) S else f_X11_worked_64 (1 : Int32) S) else (if p0 = (2 : Int32) then (if p1 = p2 then f_X11_worked_78 (1 : Int32) S else f_X11_worked_78 (0 : Int32) S) else (if p0 = (3 : Int32) then some ((p1 + p2), S) else (if p0 = (4 : Int32) then some ((p1 - p2), S) else (if p0 = (5 : Int32) then some ((p1 * p2), S) else (if p2 = 0 then some ((0 : Int32), S) else if ¬ p2 = 0 then some ((p1 / p2), S) else none)))))))
theorem c_X11_worked {p0 : Int32} {p1 : Int32} {p2 : Int32} {S : St} {r : Int32} {S' : St} (hf : f_X11_worked p0 p1 p2 S = some (r, S')) : zM yX11_worked cX11_worked 3 2 (some .int) [.int p0, .int p1, .int p2] S (some (.int r)) S' := by
  refine zM_of (zpl (by decide)) (Nat.le_of_ble_eq_true rfl) rfl (fun K hK hA => ?_)
  unfold f_X11_worked at hf
  refine j_iload_n hK dX11_worked_0 0 rfl rfl ?_
  by_cases hs10 : p0 = (0 : Int32)
  · replace hf := if_1 hs10 hf
    refine j_tabC hK (0 : Int32) 40 dX11_worked_1 hs10 (by decide) rfl (by decide) ?_
    refine j_iload_n hK dX11_worked_40 1 rfl rfl ?_
    refine j_iload_n hK dX11_worked_41 2 rfl rfl ?_
    refine j_icmp_ge hK 49 dX11_worked_42 (by decide) (fun hc => ?_) (fun hc => ?_)
    · replace hf := if_1 hc hf
      refine j_iconst hK (0 : Int32) dX11_worked_49 ic_0 ?_
      refine j_sub [] rfl ?_
      exact t_X11_worked_50 hK hA  hf
    · replace hf := if_2 hc hf
      refine j_iconst hK (1 : Int32) dX11_worked_45 ic_1 ?_
      refine j_goto hK 50 dX11_worked_46 (by decide) ?_
      refine j_sub [] rfl ?_
      exact t_X11_worked_50 hK hA  hf
  · replace hf := if_2 hs10 hf
    by_cases hs11 : p0 = (1 : Int32)
    · replace hf := if_1 hs11 hf
      refine j_tabC hK (1 : Int32) 54 dX11_worked_1 hs11 (by decide) rfl (by decide) ?_
      refine j_iload_n hK dX11_worked_54 1 rfl rfl ?_
      refine j_iload_n hK dX11_worked_55 2 rfl rfl ?_
      refine j_icmp_le hK 63 dX11_worked_56 (by decide) (fun hc => ?_) (fun hc => ?_)
      · replace hf := if_1 hc hf
        refine j_iconst hK (0 : Int32) dX11_worked_63 ic_0 ?_
        refine j_sub [] rfl ?_
        exact t_X11_worked_64 hK hA  hf
      · replace hf := if_2 hc hf
        refine j_iconst hK (1 : Int32) dX11_worked_59 ic_1 ?_
        refine j_goto hK 64 dX11_worked_60 (by decide) ?_
        refine j_sub [] rfl ?_
        exact t_X11_worked_64 hK hA  hf
    · replace hf := if_2 hs11 hf
      by_cases hs12 : p0 = (2 : Int32)
      · replace hf := if_1 hs12 hf
        refine j_tabC hK (2 : Int32) 68 dX11_worked_1 hs12 (by decide) rfl (by decide) ?_
        refine j_iload_n hK dX11_worked_68 1 rfl rfl ?_
        refine j_iload_n hK dX11_worked_69 2 rfl rfl ?_
        refine j_icmp_ne hK 77 dX11_worked_70 (by decide) (fun hc => ?_) (fun hc => ?_)
        · replace hf := if_2 hc hf
          refine j_iconst hK (0 : Int32) dX11_worked_77 ic_0 ?_
          refine j_sub [] rfl ?_
          exact t_X11_worked_78 hK hA  hf
        · replace hf := if_1 hc hf
          refine j_iconst hK (1 : Int32) dX11_worked_73 ic_1 ?_
          refine j_goto hK 78 dX11_worked_74 (by decide) ?_
          refine j_sub [] rfl ?_
          exact t_X11_worked_78 hK hA  hf
      · replace hf := if_2 hs12 hf
        by_cases hs13 : p0 = (3 : Int32)
        · replace hf := if_1 hs13 hf
          refine j_tabC hK (3 : Int32) 82 dX11_worked_1 hs13 (by decide) rfl (by decide) ?_
          refine j_iload_n hK dX11_worked_82 1 rfl rfl ?_
          refine j_iload_n hK dX11_worked_83 2 rfl rfl ?_
          refine j_iadd hK dX11_worked_84 ?_
          exact j_iret hK dX11_worked_85 rfl (rt_I hA hf)
        · replace hf := if_2 hs13 hf
          by_cases hs14 : p0 = (4 : Int32)
          · replace hf := if_1 hs14 hf
            refine j_tabC hK (4 : Int32) 86 dX11_worked_1 hs14 (by decide) rfl (by decide) ?_
            refine j_iload_n hK dX11_worked_86 1 rfl rfl ?_
            refine j_iload_n hK dX11_worked_87 2 rfl rfl ?_
            refine j_isub hK dX11_worked_88 ?_
            exact j_iret hK dX11_worked_89 rfl (rt_I hA hf)
          · replace hf := if_2 hs14 hf
            by_cases hs15 : p0 = (5 : Int32)
            · replace hf := if_1 hs15 hf
              refine j_tabC hK (5 : Int32) 90 dX11_worked_1 hs15 (by decide) rfl (by decide) ?_
              refine j_iload_n hK dX11_worked_90 1 rfl rfl ?_
              refine j_iload_n hK dX11_worked_91 2 rfl rfl ?_
              refine j_imul hK dX11_worked_92 ?_
              exact j_iret hK dX11_worked_93 rfl (rt_I hA hf)
            · replace hf := if_2 hs15 hf
              refine j_tabOut hK 94 dX11_worked_1 (by have q := And.intro (ne_toInt 0 (by decide) hs10) (And.intro (ne_toInt 1 (by decide) hs11) (And.intro (ne_toInt 2 (by decide) hs12) (And.intro (ne_toInt 3 (by decide) hs13) (And.intro (ne_toInt 4 (by decide) hs14) (And.intro (ne_toInt 5 (by decide) hs15) trivial))))); omega) (by decide) ?_
              refine j_iload_n hK dX11_worked_94 2 rfl rfl ?_
              refine j_if_ne hK 102 dX11_worked_95 (by decide) (fun hc => ?_) (fun hc => ?_)
              · replace hf := if_2 hc hf
                refine j_iload_n hK dX11_worked_102 1 rfl rfl ?_
                refine j_iload_n hK dX11_worked_103 2 rfl rfl ?_
                obtain ⟨hn16, hf⟩ := gd hf
                refine j_idiv hK dX11_worked_104 hn16 ?_
                exact j_iret hK dX11_worked_105 rfl (rt_I hA hf)
              · replace hf := if_1 hc hf
                refine j_iconst hK (0 : Int32) dX11_worked_98 ic_0 ?_
                refine j_goto hK 105 dX11_worked_99 (by decide) ?_
                exact j_iret hK dX11_worked_105 rfl (rt_I hA hf)
def f_X11_ruled_119 (x1 : Int32) (x2 : Int32) (k e : Int32 × Int32 → St → Option (Int32 × St)) (S : St) : Option (Int32 × St) := k (x1, (x2 + (1 : Int32))) S
theorem t_X11_ruled_119 {K : CT} (hK : KO K cX11_ruled RX11 4 3 (some .int)) {r : Int32} {S' : St} (hA : zans K (some (.int r), S')) {x1 : Int32} {x2 : Int32} {k e : Int32 × Int32 → St → Option (Int32 × St)} (hk : ∀ (v : Int32 × Int32) (S : St), k v S = some (r, S') → J K 4 [(0, .ref 122), (1, .int v.1), (2, .int v.2)] [] S) (he : ∀ (v : Int32 × Int32) (S : St), e v S = some (r, S') → J K 125 [(0, .ref 122)] [] S) {S : St} (hf : f_X11_ruled_119 x1 x2 k e S = some (r, S')) : J K 119 [(0, .ref 122), (1, .int x1), (2, .int x2)] [] S := by
  unfold f_X11_ruled_119 at hf
  refine j_iinc hK (L' := [(2, .int (x2 + (1 : Int32))), (0, .ref 122), (1, .int x1)]) dX11_ruled_119 2 rfl (congrArg (fun y => x2 + y) ic_1) (by decide) rfl ?_
  refine j_goto hK 4 dX11_ruled_122 (by decide) ?_
  refine j_sub [1, 2, 0] rfl ?_
  exact hk _ _ hf
def f_X11_ruled_115 (x1 : Int32) (x2 : Int32) (s1 : Int32) (s2 : Int32) (k e : Int32 × Int32 → St → Option (Int32 × St)) (S : St) : Option (Int32 × St) := if inb s1 80 then lt (sI S 132 s1.toNatClampNeg s2) (fun S2 => f_X11_ruled_119 (x1 + (1 : Int32)) x2 k e S2) else none
theorem t_X11_ruled_115 {K : CT} (hK : KO K cX11_ruled RX11 4 3 (some .int)) {r : Int32} {S' : St} (hA : zans K (some (.int r), S')) {x1 : Int32} {x2 : Int32} {s1 : Int32} {s2 : Int32} {k e : Int32 × Int32 → St → Option (Int32 × St)} (hk : ∀ (v : Int32 × Int32) (S : St), k v S = some (r, S') → J K 4 [(0, .ref 122), (1, .int v.1), (2, .int v.2)] [] S) (he : ∀ (v : Int32 × Int32) (S : St), e v S = some (r, S') → J K 125 [(0, .ref 122)] [] S) {S : St} (hf : f_X11_ruled_115 x1 x2 s1 s2 k e S = some (r, S')) : J K 115 [(0, .ref 122), (1, .int x1), (2, .int x2)] [.int s2, .int s1, .ref 132] S := by
  unfold f_X11_ruled_115 at hf
  obtain ⟨hi1, hf⟩ := gd hf
  refine k_iast hK dX11_ruled_115 zb_132 hi1 rfl ?_
  refine lt_S hf (fun S2 hf => ?_)
  refine j_iinc hK (L' := [(1, .int (x1 + (1 : Int32))), (0, .ref 122), (2, .int x2)]) dX11_ruled_116 1 rfl (congrArg (fun y => x1 + y) ic_1) (by decide) rfl ?_
  refine j_sub [1, 0, 2] rfl ?_
  exact t_X11_ruled_119 hK hA hk he hf
def f_X11_ruled_4b (e : Int32 × Int32 → St → Option (Int32 × St)) (k : Int32 × Int32 → St → Option (Int32 × St)) (v : Int32 × Int32) (S : St) : Option (Int32 × St) := (if (gI S 122 18) ≤ v.2 then e (v.1, v.2) S else if inb v.2 80 then lt (gI S 130 v.2.toNatClampNeg) (fun y4 => (if y4 = (3000 : Int32) then if inb (v.1 - (1 : Int32)) 80 then if inb (v.1 - (1 : Int32)) 80 then lt (sI S 132 (v.1 - (1 : Int32)).toNatClampNeg (-(gI S 132 (v.1 - (1 : Int32)).toNatClampNeg))) (fun S15 => f_X11_ruled_119 v.1 v.2 k e S15) else none else none else (if y4 < (2000 : Int32) then (if y4 < (1000 : Int32) then f_X11_ruled_115 v.1 v.2 v.1 y4 k e S else if inb (y4 - (1000 : Int32)) 7 then f_X11_ruled_115 v.1 v.2 v.1 (gI S 133 (y4 - (1000 : Int32)).toNatClampNeg) k e S else none) else if inb ((v.1 + (-1 : Int32)) - (1 : Int32)) 80 then if inb (v.1 + (-1 : Int32)) 80 then bd (f_X11_worked (y4 - (2000 : Int32)) (gI S 132 ((v.1 + (-1 : Int32)) - (1 : Int32)).toNatClampNeg) (gI S 132 (v.1 + (-1 : Int32)).toNatClampNeg) S) (fun r8 S9 => if inb ((v.1 + (-1 : Int32)) - (1 : Int32)) 80 then lt (sI S9 132 ((v.1 + (-1 : Int32)) - (1 : Int32)).toNatClampNeg r8) (fun S12 => f_X11_ruled_119 (v.1 + (-1 : Int32)) v.2 k e S12) else none) else none else none))) else none)
theorem t_X11_ruled_4 {K : CT} (hK : KO K cX11_ruled RX11 4 3 (some .int)) {r : Int32} {S' : St} (hA : zans K (some (.int r), S')) {e : Int32 × Int32 → St → Option (Int32 × St)} (he : ∀ (v : Int32 × Int32) (S : St), e v S = some (r, S') → J K 125 [(0, .ref 122)] [] S) : ∀ (n : Nat) (v : Int32 × Int32) (S : St), lp (f_X11_ruled_4b  e) n v S = some (r, S') → J K 4 [(0, .ref 122), (1, .int v.1), (2, .int v.2)] [] S :=
  lp_J (P := fun (v : Int32 × Int32) (S : St) => J K 4 [(0, .ref 122), (1, .int v.1), (2, .int v.2)] [] S) (fun k hk v S hf => by
    unfold f_X11_ruled_4b at hf
    refine j_iload_n hK dX11_ruled_4 2 rfl rfl ?_
    refine j_aload_n hK dX11_ruled_5 0 rfl rfl ?_
    refine j_getI hK fl_X11_237 dX11_ruled_6 zo_122 zf_11_18 ?_
    refine j_icmp_ge hK 125 dX11_ruled_9 (by decide) (fun hc => ?_) (fun hc => ?_)
    · replace hf := if_1 hc hf
      refine j_sub [0] rfl ?_
      exact he _ _ hf
    · replace hf := if_2 hc hf
      refine j_aload_n hK dX11_ruled_12 0 rfl rfl ?_
      refine j_getR hK fl_X11_43 dX11_ruled_13 zo_122 zf_11_16 zr_122_16 ?_
      refine j_iload_n hK dX11_ruled_16 2 rfl rfl ?_
      obtain ⟨hi3, hf⟩ := gd hf
      refine k_iald hK dX11_ruled_17 zb_130 hi3 rfl ?_
      refine lt_I hf (fun y4 hf => ?_)
      refine j_istore_n hK (L' := [(3, .int y4), (0, .ref 122), (1, .int v.1), (2, .int v.2)]) dX11_ruled_18 rfl (by decide) rfl ?_
      refine j_iload_n hK dX11_ruled_19 0 rfl rfl ?_
      refine j_sipush hK (3000 : Int32) dX11_ruled_20 si_3000 ?_
      refine j_pc (pc' := 23) rfl ?_
      refine j_icmp_ne hK 46 dX11_ruled_23 (by decide) (fun hc => ?_) (fun hc => ?_)
      · replace hf := if_2 hc hf
        refine j_iload_n hK dX11_ruled_46 0 rfl rfl ?_
        refine j_sipush hK (2000 : Int32) dX11_ruled_47 si_2000 ?_
        refine j_icmp_lt hK 89 dX11_ruled_50 (by decide) (fun hc => ?_) (fun hc => ?_)
        · replace hf := if_1 hc hf
          refine j_aload_n hK dX11_ruled_89 1 rfl rfl ?_
          refine j_getR hK fl_X11_49 dX11_ruled_90 zo_122 zf_11_20 zr_122_20 ?_
          refine j_iload_n hK dX11_ruled_93 2 rfl rfl ?_
          refine j_iload_n hK dX11_ruled_94 0 rfl rfl ?_
          refine j_sipush hK (1000 : Int32) dX11_ruled_95 si_1000 ?_
          refine j_icmp_lt hK 114 dX11_ruled_98 (by decide) (fun hc => ?_) (fun hc => ?_)
          · replace hf := if_1 hc hf
            refine j_iload_n hK dX11_ruled_114 0 rfl rfl ?_
            refine j_sub [1, 2, 3] rfl ?_
            exact t_X11_ruled_115 hK hA hk he hf
          · replace hf := if_2 hc hf
            refine j_aload_n hK dX11_ruled_101 1 rfl rfl ?_
            refine j_getR hK fl_X11_52 dX11_ruled_102 zo_122 zf_11_21 zr_122_21 ?_
            refine j_iload_n hK dX11_ruled_105 0 rfl rfl ?_
            refine j_sipush hK (1000 : Int32) dX11_ruled_106 si_1000 ?_
            refine j_isub hK dX11_ruled_109 ?_
            obtain ⟨hi5, hf⟩ := gd hf
            refine k_iald hK dX11_ruled_110 zb_133 hi5 rfl ?_
            refine j_goto hK 115 dX11_ruled_111 (by decide) ?_
            refine j_sub [1, 2, 3] rfl ?_
            exact t_X11_ruled_115 hK hA hk he hf
        · replace hf := if_2 hc hf
          refine j_iinc hK (L' := [(1, .int (v.1 + (-1 : Int32))), (3, .int y4), (0, .ref 122), (2, .int v.2)]) dX11_ruled_53 2 rfl (congrArg (fun y => v.1 + y) ic_m1) (by decide) rfl ?_
          refine j_aload_n hK dX11_ruled_56 2 rfl rfl ?_
          refine j_getR hK fl_X11_49 dX11_ruled_57 zo_122 zf_11_20 zr_122_20 ?_
          refine j_iload_n hK dX11_ruled_60 0 rfl rfl ?_
          refine j_iconst hK (1 : Int32) dX11_ruled_61 ic_1 ?_
          refine j_isub hK dX11_ruled_62 ?_
          refine j_iload_n hK dX11_ruled_63 1 rfl rfl ?_
          refine j_pc (pc' := 64) rfl ?_
          refine j_sipush hK (2000 : Int32) dX11_ruled_64 si_2000 ?_
          refine j_isub hK dX11_ruled_67 ?_
          refine j_aload_n hK dX11_ruled_68 2 rfl rfl ?_
          refine j_getR hK fl_X11_49 dX11_ruled_69 zo_122 zf_11_20 zr_122_20 ?_
          refine j_iload_n hK dX11_ruled_72 0 rfl rfl ?_
          refine j_iconst hK (1 : Int32) dX11_ruled_73 ic_1 ?_
          refine j_isub hK dX11_ruled_74 ?_
          obtain ⟨hi6, hf⟩ := gd hf
          refine k_iald hK dX11_ruled_75 zb_132 hi6 rfl ?_
          refine j_pc (pc' := 76) rfl ?_
          refine j_aload_n hK dX11_ruled_76 2 rfl rfl ?_
          refine j_getR hK fl_X11_49 dX11_ruled_77 zo_122 zf_11_20 zr_122_20 ?_
          refine j_iload_n hK dX11_ruled_80 0 rfl rfl ?_
          obtain ⟨hi7, hf⟩ := gd hf
          refine k_iald hK dX11_ruled_81 zb_132 hi7 rfl ?_
          obtain ⟨r8, S9, h10, hf⟩ := bd_J hf
          refine k_callSi hK (c_X11_worked h10) dX11_ruled_82 ml_X11_247 ms_X11_worked in_X11 mc_X11_worked hy_X11_worked ⟨by decide, by decide⟩ rfl (Nat.le_of_ble_eq_true rfl) ?_
          obtain ⟨hi11, hf⟩ := gd hf
          refine k_iast hK dX11_ruled_85 zb_132 hi11 rfl ?_
          refine lt_S hf (fun S12 hf => ?_)
          refine j_goto hK 119 dX11_ruled_86 (by decide) ?_
          refine j_sub [2, 0, 3] rfl ?_
          exact t_X11_ruled_119 hK hA hk he hf
      · replace hf := if_1 hc hf
        refine j_aload_n hK dX11_ruled_26 1 rfl rfl ?_
        refine j_getR hK fl_X11_49 dX11_ruled_27 zo_122 zf_11_20 zr_122_20 ?_
        refine j_iload_n hK dX11_ruled_30 2 rfl rfl ?_
        refine j_iconst hK (1 : Int32) dX11_ruled_31 ic_1 ?_
        refine j_isub hK dX11_ruled_32 ?_
        refine j_aload_n hK dX11_ruled_33 1 rfl rfl ?_
        refine j_getR hK fl_X11_49 dX11_ruled_34 zo_122 zf_11_20 zr_122_20 ?_
        refine j_pc (pc' := 37) rfl ?_
        refine j_iload_n hK dX11_ruled_37 2 rfl rfl ?_
        refine j_iconst hK (1 : Int32) dX11_ruled_38 ic_1 ?_
        refine j_isub hK dX11_ruled_39 ?_
        obtain ⟨hi13, hf⟩ := gd hf
        refine k_iald hK dX11_ruled_40 zb_132 hi13 rfl ?_
        refine j_ineg hK dX11_ruled_41 ?_
        obtain ⟨hi14, hf⟩ := gd hf
        refine k_iast hK dX11_ruled_42 zb_132 hi14 rfl ?_
        refine lt_S hf (fun S15 hf => ?_)
        refine j_goto hK 119 dX11_ruled_43 (by decide) ?_
        refine j_sub [1, 2, 3] rfl ?_
        exact t_X11_ruled_119 hK hA hk he hf)
def f_X11_ruled (S : St) : Option (Int32 × St) := lp (f_X11_ruled_4b  (fun v16 S17 => (if (gI S17 122 18) = 0 then some ((((gI S17 133 0) + (gI S17 133 1)) - ((gI S17 133 2) / (3 : Int32))), S17) else some ((gI S17 132 0), S17)))) FU ((0 : Int32), (0 : Int32)) S
theorem c_X11_ruled {S : St} {r : Int32} {S' : St} (hf : f_X11_ruled S = some (r, S')) : zM yX11_ruled cX11_ruled 4 3 (some .int) [.ref 122] S (some (.int r)) S' := by
  refine zM_of (zpl (by decide)) (Nat.le_of_ble_eq_true rfl) rfl (fun K hK hA => ?_)
  unfold f_X11_ruled at hf
  refine j_iconst hK (0 : Int32) dX11_ruled_0 ic_0 ?_
  refine j_istore_n hK (L' := [(1, .int (0 : Int32)), (0, .ref 122)]) dX11_ruled_1 rfl (by decide) rfl ?_
  refine j_iconst hK (0 : Int32) dX11_ruled_2 ic_0 ?_
  refine j_istore_n hK (L' := [(2, .int (0 : Int32)), (1, .int (0 : Int32)), (0, .ref 122)]) dX11_ruled_3 rfl (by decide) rfl ?_
  refine j_sub [2, 1, 0] rfl ?_
  refine t_X11_ruled_4 hK hA  (fun v16 S17 hf => ?_) _ _ _ hf
  refine j_aload_n hK dX11_ruled_125 0 rfl rfl ?_
  refine j_getI hK fl_X11_237 dX11_ruled_126 zo_122 zf_11_18 ?_
  refine j_if_ne hK 157 dX11_ruled_129 (by decide) (fun hc => ?_) (fun hc => ?_)
  · replace hf := if_2 hc hf
    refine j_aload_n hK dX11_ruled_157 0 rfl rfl ?_
    refine j_getR hK fl_X11_49 dX11_ruled_158 zo_122 zf_11_20 zr_122_20 ?_
    refine j_iconst hK (0 : Int32) dX11_ruled_161 ic_0 ?_
    refine k_iald hK dX11_ruled_162 zb_132 (by decide) tn_0 ?_
    exact j_iret hK dX11_ruled_163 rfl (rt_I hA hf)
  · replace hf := if_1 hc hf
    refine j_aload_n hK dX11_ruled_132 0 rfl rfl ?_
    refine j_getR hK fl_X11_52 dX11_ruled_133 zo_122 zf_11_21 zr_122_21 ?_
    refine j_iconst hK (0 : Int32) dX11_ruled_136 ic_0 ?_
    refine k_iald hK dX11_ruled_137 zb_133 (by decide) tn_0 ?_
    refine j_aload_n hK dX11_ruled_138 0 rfl rfl ?_
    refine j_getR hK fl_X11_52 dX11_ruled_139 zo_122 zf_11_21 zr_122_21 ?_
    refine j_iconst hK (1 : Int32) dX11_ruled_142 ic_1 ?_
    refine j_pc (pc' := 143) rfl ?_
    refine k_iald hK dX11_ruled_143 zb_133 (by decide) tn_1 ?_
    refine j_iadd hK dX11_ruled_144 ?_
    refine j_aload_n hK dX11_ruled_145 0 rfl rfl ?_
    refine j_getR hK fl_X11_52 dX11_ruled_146 zo_122 zf_11_21 zr_122_21 ?_
    refine j_iconst hK (2 : Int32) dX11_ruled_149 ic_2 ?_
    refine k_iald hK dX11_ruled_150 zb_133 (by decide) tn_2 ?_
    refine j_iconst hK (3 : Int32) dX11_ruled_151 ic_3 ?_
    refine j_idiv hK dX11_ruled_152 (by decide) ?_
    refine j_pc (pc' := 153) rfl ?_
    refine j_isub hK dX11_ruled_153 ?_
    refine j_goto hK 163 dX11_ruled_154 (by decide) ?_
    exact j_iret hK dX11_ruled_163 rfl (rt_I hA hf)
def f_J9_floorMod_7cf53 (p0 : Int32) (p1 : Int32) (S : St) : Option (Int32 × St) := if ¬ p1 = 0 then lt (p0 - p0 / p1 * p1) (fun y2 => (if 0 ≤ (p0 ^^^ p1) then some (y2, S) else (if y2 = 0 then some (y2, S) else some ((y2 + p1), S)))) else none
theorem c_J9_floorMod_7cf53 {p0 : Int32} {p1 : Int32} {S : St} {r : Int32} {S' : St} (hf : f_J9_floorMod_7cf53 p0 p1 S = some (r, S')) : zM yJ9_floorMod_7cf53 cJ9_floorMod_7cf53 3 1 (some .int) [.int p0, .int p1] S (some (.int r)) S' := by
  refine zM_of (by decide +kernel) (Nat.le_of_ble_eq_true rfl) rfl (fun K hK hA => ?_)
  unfold f_J9_floorMod_7cf53 at hf
  refine j_iload_n hK dJ9_floorMod_7cf53_0 0 rfl rfl ?_
  refine j_iload_n hK dJ9_floorMod_7cf53_1 1 rfl rfl ?_
  obtain ⟨hn1, hf⟩ := gd hf
  refine j_irem hK dJ9_floorMod_7cf53_2 hn1 ?_
  refine lt_I hf (fun y2 hf => ?_)
  refine j_istore_n hK (L' := [(2, .int y2), (0, .int p0), (1, .int p1)]) dJ9_floorMod_7cf53_3 rfl (by decide) rfl ?_
  refine j_iload_n hK dJ9_floorMod_7cf53_4 1 rfl rfl ?_
  refine j_iload_n hK dJ9_floorMod_7cf53_5 2 rfl rfl ?_
  refine j_ixor hK dJ9_floorMod_7cf53_6 ?_
  refine j_if_ge hK 18 dJ9_floorMod_7cf53_7 (by decide) (fun hc => ?_) (fun hc => ?_)
  · replace hf := if_1 hc hf
    refine j_iload_n hK dJ9_floorMod_7cf53_18 0 rfl rfl ?_
    exact j_iret hK dJ9_floorMod_7cf53_19 rfl (rt_I hA hf)
  · replace hf := if_2 hc hf
    refine j_iload_n hK dJ9_floorMod_7cf53_10 0 rfl rfl ?_
    refine j_if_eq hK 18 dJ9_floorMod_7cf53_11 (by decide) (fun hc => ?_) (fun hc => ?_)
    · replace hf := if_1 hc hf
      refine j_iload_n hK dJ9_floorMod_7cf53_18 0 rfl rfl ?_
      exact j_iret hK dJ9_floorMod_7cf53_19 rfl (rt_I hA hf)
    · replace hf := if_2 hc hf
      refine j_iload_n hK dJ9_floorMod_7cf53_14 0 rfl rfl ?_
      refine j_iload_n hK dJ9_floorMod_7cf53_15 2 rfl rfl ?_
      refine j_iadd hK dJ9_floorMod_7cf53_16 ?_
      exact j_iret hK dJ9_floorMod_7cf53_17 rfl (rt_I hA hf)
def f_X11_becomesBy (ar : Nat) (p2 : Int32) (p3 : Int32) (p4 : Int32) (p5 : Int32) (S : St) : Option (Int32 × St) := lt (sI S 133 0 p4) (fun S1 => if inb ((12 : Int32) + p2) 39 then lt (sI S1 133 1 (gI S1 ar ((12 : Int32) + p2).toNatClampNeg)) (fun S3 => if inb ((24 : Int32) + p2) 39 then lt (sI S3 133 2 (gI S3 ar ((24 : Int32) + p2).toNatClampNeg)) (fun S5 => if inb p2 39 then lt (sI S5 133 3 (gI S5 ar p2.toNatClampNeg)) (fun S7 => lt (sI S7 133 4 p5) (fun S8 => lt (sI S8 133 5 ((gI S8 ar 37) - (gI S8 ar 37) / (7 : Int32) * (7 : Int32))) (fun S9 => bd (f_X11_flag p3 S9) (fun r10 S11 => lt (sI S11 133 6 r10) (fun S13 => bd (f_X11_ruled S13) (fun r14 S15 => bd (f_J9_floorMod_7cf53 r14 (8 : Int32) S15) (fun r17 S18 => some (r17, S18)))))))) else none) else none) else none)
theorem c_X11_becomesBy {ar : Nat} (har : zB 12 39 ar) {p2 : Int32} {p3 : Int32} {p4 : Int32} {p5 : Int32} {S : St} {r : Int32} {S' : St} (hf : f_X11_becomesBy ar p2 p3 p4 p5 S = some (r, S')) : zM yX11_becomesBy cX11_becomesBy 6 4 (some .int) [.ref 122, .ref ar, .int p2, .int p3, .int p4, .int p5] S (some (.int r)) S' := by
  refine zM_of (zpl (by decide)) (Nat.le_of_ble_eq_true rfl) rfl (fun K hK hA => ?_)
  unfold f_X11_becomesBy at hf
  refine j_aload_n hK dX11_becomesBy_0 0 rfl rfl ?_
  refine j_getR hK fl_X11_52 dX11_becomesBy_1 zo_122 zf_11_21 zr_122_21 ?_
  refine j_iconst hK (0 : Int32) dX11_becomesBy_4 ic_0 ?_
  refine j_iload hK dX11_becomesBy_5 4 rfl ?_
  refine k_iast hK dX11_becomesBy_7 zb_133 (by decide) tn_0 ?_
  refine lt_S hf (fun S1 hf => ?_)
  refine j_aload_n hK dX11_becomesBy_8 0 rfl rfl ?_
  refine j_getR hK fl_X11_52 dX11_becomesBy_9 zo_122 zf_11_21 zr_122_21 ?_
  refine j_iconst hK (1 : Int32) dX11_becomesBy_12 ic_1 ?_
  refine j_pc (pc' := 13) rfl ?_
  refine j_aload_n hK dX11_becomesBy_13 1 rfl rfl ?_
  refine j_bipush hK (12 : Int32) dX11_becomesBy_14 bi_12 ?_
  refine j_iload_n hK dX11_becomesBy_16 2 rfl rfl ?_
  refine j_iadd hK dX11_becomesBy_17 ?_
  obtain ⟨hi2, hf⟩ := gd hf
  refine k_iald hK dX11_becomesBy_18 har hi2 rfl ?_
  refine k_iast hK dX11_becomesBy_19 zb_133 (by decide) tn_1 ?_
  refine lt_S hf (fun S3 hf => ?_)
  refine j_aload_n hK dX11_becomesBy_20 0 rfl rfl ?_
  refine j_getR hK fl_X11_52 dX11_becomesBy_21 zo_122 zf_11_21 zr_122_21 ?_
  refine j_pc (pc' := 24) rfl ?_
  refine j_iconst hK (2 : Int32) dX11_becomesBy_24 ic_2 ?_
  refine j_aload_n hK dX11_becomesBy_25 1 rfl rfl ?_
  refine j_bipush hK (24 : Int32) dX11_becomesBy_26 bi_24 ?_
  refine j_iload_n hK dX11_becomesBy_28 2 rfl rfl ?_
  refine j_iadd hK dX11_becomesBy_29 ?_
  obtain ⟨hi4, hf⟩ := gd hf
  refine k_iald hK dX11_becomesBy_30 har hi4 rfl ?_
  refine k_iast hK dX11_becomesBy_31 zb_133 (by decide) tn_2 ?_
  refine lt_S hf (fun S5 hf => ?_)
  refine j_aload_n hK dX11_becomesBy_32 0 rfl rfl ?_
  refine j_pc (pc' := 33) rfl ?_
  refine j_getR hK fl_X11_52 dX11_becomesBy_33 zo_122 zf_11_21 zr_122_21 ?_
  refine j_iconst hK (3 : Int32) dX11_becomesBy_36 ic_3 ?_
  refine j_aload_n hK dX11_becomesBy_37 1 rfl rfl ?_
  refine j_iload_n hK dX11_becomesBy_38 2 rfl rfl ?_
  obtain ⟨hi6, hf⟩ := gd hf
  refine k_iald hK dX11_becomesBy_39 har hi6 rfl ?_
  refine k_iast hK dX11_becomesBy_40 zb_133 (by decide) tn_3 ?_
  refine lt_S hf (fun S7 hf => ?_)
  refine j_aload_n hK dX11_becomesBy_41 0 rfl rfl ?_
  refine j_getR hK fl_X11_52 dX11_becomesBy_42 zo_122 zf_11_21 zr_122_21 ?_
  refine j_pc (pc' := 45) rfl ?_
  refine j_iconst hK (4 : Int32) dX11_becomesBy_45 ic_4 ?_
  refine j_iload hK dX11_becomesBy_46 5 rfl ?_
  refine k_iast hK dX11_becomesBy_48 zb_133 (by decide) tn_4 ?_
  refine lt_S hf (fun S8 hf => ?_)
  refine j_aload_n hK dX11_becomesBy_49 0 rfl rfl ?_
  refine j_getR hK fl_X11_52 dX11_becomesBy_50 zo_122 zf_11_21 zr_122_21 ?_
  refine j_iconst hK (5 : Int32) dX11_becomesBy_53 ic_5 ?_
  refine j_aload_n hK dX11_becomesBy_54 1 rfl rfl ?_
  refine j_bipush hK (37 : Int32) dX11_becomesBy_55 bi_37 ?_
  refine j_pc (pc' := 57) rfl ?_
  refine k_iald hK dX11_becomesBy_57 har (by decide) tn_37 ?_
  refine j_bipush hK (7 : Int32) dX11_becomesBy_58 bi_7 ?_
  refine j_irem hK dX11_becomesBy_60 (by decide) ?_
  refine k_iast hK dX11_becomesBy_61 zb_133 (by decide) tn_5 ?_
  refine lt_S hf (fun S9 hf => ?_)
  refine j_aload_n hK dX11_becomesBy_62 0 rfl rfl ?_
  refine j_getR hK fl_X11_52 dX11_becomesBy_63 zo_122 zf_11_21 zr_122_21 ?_
  refine j_bipush hK (6 : Int32) dX11_becomesBy_66 bi_6 ?_
  refine j_iload_n hK dX11_becomesBy_68 3 rfl rfl ?_
  refine j_pc (pc' := 69) rfl ?_
  obtain ⟨r10, S11, h12, hf⟩ := bd_J hf
  refine k_callSi hK (c_X11_flag h12) dX11_becomesBy_69 ml_X11_155 ms_X11_flag in_X11 mc_X11_flag hy_X11_flag ⟨by decide, by decide⟩ rfl (Nat.le_of_ble_eq_true rfl) ?_
  refine k_iast hK dX11_becomesBy_72 zb_133 (by decide) tn_6 ?_
  refine lt_S hf (fun S13 hf => ?_)
  refine j_aload_n hK dX11_becomesBy_73 0 rfl rfl ?_
  obtain ⟨r14, S15, h16, hf⟩ := bd_J hf
  refine k_callVi hK (c_X11_ruled h16) dX11_becomesBy_74 zclX11 zo_122 ml_X11_250 mi_X11_ruled mx_X11_ruled in_X11 mc_X11_ruled hy_X11_ruled ⟨by decide, by decide⟩ rfl (Nat.le_of_ble_eq_true rfl) ?_
  refine j_bipush hK (8 : Int32) dX11_becomesBy_77 bi_8 ?_
  obtain ⟨r17, S18, h19, hf⟩ := bd_J hf
  refine k_callSi hK (c_J9_floorMod_7cf53 h19) dX11_becomesBy_79 ml_X11_253 ms_J9_floorMod_7cf53 in_J9 mc_J9_floorMod_7cf53 hy_J9_floorMod_7cf53 ⟨by decide, by decide⟩ rfl (Nat.le_of_ble_eq_true rfl) ?_
  exact j_iret hK dX11_becomesBy_82 rfl (rt_I hA hf)
def f_X11_isEcho (ar : Nat) (p2 : Int32) (p3 : Int32) (S : St) : Option (Int32 × St) := bd (f_X11_isCavern p2 S) (fun r1 S2 => (if r1 = 0 then some ((0 : Int32), S2) else bd (f_X11_isPassage p3 S2) (fun r4 S5 => (if r4 = 0 then some ((0 : Int32), S5) else bd (f_X11_has (gI S5 ar 36) p3 S5) (fun r7 S8 => (if r7 = 0 then some ((0 : Int32), S8) else bd (f_X11_isEnd p3 p2 S8) (fun r10 S11 => (if r10 = 0 then some ((0 : Int32), S11) else some ((1 : Int32), S11)))))))))
theorem c_X11_isEcho {ar : Nat} (har : zB 12 39 ar) {p2 : Int32} {p3 : Int32} {S : St} {r : Int32} {S' : St} (hf : f_X11_isEcho ar p2 p3 S = some (r, S')) : zM yX11_isEcho cX11_isEcho 4 3 (some .boolean) [.ref 122, .ref ar, .int p2, .int p3] S (some (.int r)) S' := by
  refine zM_of (zpl (by decide)) (Nat.le_of_ble_eq_true rfl) rfl (fun K hK hA => ?_)
  unfold f_X11_isEcho at hf
  refine j_iload_n hK dX11_isEcho_0 2 rfl rfl ?_
  obtain ⟨r1, S2, h3, hf⟩ := bd_J hf
  refine k_callSi hK (c_X11_isCavern h3) dX11_isEcho_1 ml_X11_256 ms_X11_isCavern in_X11 mc_X11_isCavern hy_X11_isCavern ⟨by decide, by decide⟩ rfl (Nat.le_of_ble_eq_true rfl) ?_
  refine j_if_eq hK 39 dX11_isEcho_4 (by decide) (fun hc => ?_) (fun hc => ?_)
  · replace hf := if_1 hc hf
    refine j_iconst hK (0 : Int32) dX11_isEcho_39 ic_0 ?_
    exact j_zret hK dX11_isEcho_40 rfl rfl (rt_I hA hf)
  · replace hf := if_2 hc hf
    refine j_aload_n hK dX11_isEcho_7 0 rfl rfl ?_
    refine j_iload_n hK dX11_isEcho_8 3 rfl rfl ?_
    obtain ⟨r4, S5, h6, hf⟩ := bd_J hf
    refine k_callVi hK (c_X11_isPassage h6) dX11_isEcho_9 zclX11 zo_122 ml_X11_259 mi_X11_isPassage mx_X11_isPassage in_X11 mc_X11_isPassage hy_X11_isPassage ⟨by decide, by decide⟩ rfl (Nat.le_of_ble_eq_true rfl) ?_
    refine j_if_eq hK 39 dX11_isEcho_12 (by decide) (fun hc => ?_) (fun hc => ?_)
    · replace hf := if_1 hc hf
      refine j_iconst hK (0 : Int32) dX11_isEcho_39 ic_0 ?_
      exact j_zret hK dX11_isEcho_40 rfl rfl (rt_I hA hf)
    · replace hf := if_2 hc hf
      refine j_aload_n hK dX11_isEcho_15 1 rfl rfl ?_
      refine j_bipush hK (36 : Int32) dX11_isEcho_16 bi_36 ?_
      refine k_iald hK dX11_isEcho_18 har (by decide) tn_36 ?_
      refine j_iload_n hK dX11_isEcho_19 3 rfl rfl ?_
      obtain ⟨r7, S8, h9, hf⟩ := bd_J hf
      refine k_callSi hK (c_X11_has h9) dX11_isEcho_20 ml_X11_262 ms_X11_has in_X11 mc_X11_has hy_X11_has ⟨by decide, by decide⟩ rfl (Nat.le_of_ble_eq_true rfl) ?_
      refine j_if_eq hK 39 dX11_isEcho_23 (by decide) (fun hc => ?_) (fun hc => ?_)
      · replace hf := if_1 hc hf
        refine j_iconst hK (0 : Int32) dX11_isEcho_39 ic_0 ?_
        exact j_zret hK dX11_isEcho_40 rfl rfl (rt_I hA hf)
      · replace hf := if_2 hc hf
        refine j_aload_n hK dX11_isEcho_26 0 rfl rfl ?_
        refine j_iload_n hK dX11_isEcho_27 3 rfl rfl ?_
        refine j_iload_n hK dX11_isEcho_28 2 rfl rfl ?_
        obtain ⟨r10, S11, h12, hf⟩ := bd_J hf
        refine k_callVi hK (c_X11_isEnd h12) dX11_isEcho_29 zclX11 zo_122 ml_X11_266 mi_X11_isEnd mx_X11_isEnd in_X11 mc_X11_isEnd hy_X11_isEnd ⟨by decide, by decide⟩ rfl (Nat.le_of_ble_eq_true rfl) ?_
        refine j_if_eq hK 39 dX11_isEcho_32 (by decide) (fun hc => ?_) (fun hc => ?_)
        · replace hf := if_1 hc hf
          refine j_iconst hK (0 : Int32) dX11_isEcho_39 ic_0 ?_
          exact j_zret hK dX11_isEcho_40 rfl rfl (rt_I hA hf)
        · replace hf := if_2 hc hf
          refine j_iconst hK (1 : Int32) dX11_isEcho_35 ic_1 ?_
          refine j_goto hK 40 dX11_isEcho_36 (by decide) ?_
          exact j_zret hK dX11_isEcho_40 rfl rfl (rt_I hA hf)
def f_X11_laysEcho_170 (ar : Nat) (x2 : Int32) (x4 : Int32) (x6 : Int32) (s0 : Int32) (k e : Int32 × Int32 → St → Option (Unit × St)) (S : St) : Option (Unit × St) := k (s0, (x6 + (-1 : Int32))) S
theorem t_X11_laysEcho_170 {K : CT} (hK : KO K cX11_laysEcho RX11 7 2 none) {r : Unit} {S' : St} (hA : zans K (none, S')) {ar : Nat} (har : zB 12 39 ar) {x2 : Int32} {x4 : Int32} {x6 : Int32} {s0 : Int32} {k e : Int32 × Int32 → St → Option (Unit × St)} (hk : ∀ (v : Int32 × Int32) (S : St), k v S = some (r, S') → J K 127 [(0, .ref 122), (1, .ref ar), (2, .int x2), (4, .int x4), (5, .int v.1), (6, .int v.2)] [] S) (he : ∀ (v : Int32 × Int32) (S : St), e v S = some (r, S') → J K 178 [(0, .ref 122), (1, .ref ar), (2, .int x2), (4, .int x4), (5, .int v.1)] [] S) {S : St} (hf : f_X11_laysEcho_170 ar x2 x4 x6 s0 k e S = some (r, S')) : J K 170 [(0, .ref 122), (1, .ref ar), (2, .int x2), (4, .int x4), (6, .int x6)] [.int s0] S := by
  unfold f_X11_laysEcho_170 at hf
  refine j_istore hK (L' := [(5, .int s0), (0, .ref 122), (1, .ref ar), (2, .int x2), (4, .int x4), (6, .int x6)]) dX11_laysEcho_170 (by decide) rfl ?_
  refine j_iinc hK (L' := [(6, .int (x6 + (-1 : Int32))), (5, .int s0), (0, .ref 122), (1, .ref ar), (2, .int x2), (4, .int x4)]) dX11_laysEcho_172 5 rfl (congrArg (fun y => x6 + y) ic_m1) (by decide) rfl ?_
  refine j_goto hK 127 dX11_laysEcho_175 (by decide) ?_
  refine j_sub [2, 3, 4, 5, 1, 0] rfl ?_
  exact hk _ _ hf
def f_X11_laysEcho_168 (ar : Nat) (x2 : Int32) (x4 : Int32) (x5 : Int32) (x6 : Int32) (k e : Int32 × Int32 → St → Option (Unit × St)) (S : St) : Option (Unit × St) := f_X11_laysEcho_170 ar x2 x4 x6 x5 k e S
theorem t_X11_laysEcho_168 {K : CT} (hK : KO K cX11_laysEcho RX11 7 2 none) {r : Unit} {S' : St} (hA : zans K (none, S')) {ar : Nat} (har : zB 12 39 ar) {x2 : Int32} {x4 : Int32} {x5 : Int32} {x6 : Int32} {k e : Int32 × Int32 → St → Option (Unit × St)} (hk : ∀ (v : Int32 × Int32) (S : St), k v S = some (r, S') → J K 127 [(0, .ref 122), (1, .ref ar), (2, .int x2), (4, .int x4), (5, .int v.1), (6, .int v.2)] [] S) (he : ∀ (v : Int32 × Int32) (S : St), e v S = some (r, S') → J K 178 [(0, .ref 122), (1, .ref ar), (2, .int x2), (4, .int x4), (5, .int v.1)] [] S) {S : St} (hf : f_X11_laysEcho_168 ar x2 x4 x5 x6 k e S = some (r, S')) : J K 168 [(0, .ref 122), (1, .ref ar), (2, .int x2), (4, .int x4), (5, .int x5), (6, .int x6)] [] S := by
  unfold f_X11_laysEcho_168 at hf
  refine j_iload hK dX11_laysEcho_168 4 rfl ?_
  refine j_sub [0, 1, 2, 3, 5] rfl ?_
  exact t_X11_laysEcho_170 hK hA har hk he hf
def f_X11_laysEcho_127b (ar : Nat) (x2 : Int32) (x4 : Int32) (e : Int32 × Int32 → St → Option (Unit × St)) (k : Int32 × Int32 → St → Option (Unit × St)) (v : Int32 × Int32) (S : St) : Option (Unit × St) := (if v.2 < 0 then e (v.1, v.2) S else (if (gI S 122 25) = x2 then e (v.1, v.2) S else bd (f_X11_has x4 v.2 S) (fun r1 S2 => (if r1 = 0 then f_X11_laysEcho_168 ar x2 x4 v.1 v.2 k e S2 else bd (f_X11_isEnd v.2 (gI S2 122 25) S2) (fun r4 S5 => (if r4 = 0 then f_X11_laysEcho_168 ar x2 x4 v.1 v.2 k e S5 else f_X11_laysEcho_170 ar x2 x4 v.2 v.2 k e S5))))))
theorem t_X11_laysEcho_127 {K : CT} (hK : KO K cX11_laysEcho RX11 7 2 none) {r : Unit} {S' : St} (hA : zans K (none, S')) {ar : Nat} (har : zB 12 39 ar) {x2 : Int32} {x4 : Int32} {e : Int32 × Int32 → St → Option (Unit × St)} (he : ∀ (v : Int32 × Int32) (S : St), e v S = some (r, S') → J K 178 [(0, .ref 122), (1, .ref ar), (2, .int x2), (4, .int x4), (5, .int v.1)] [] S) : ∀ (n : Nat) (v : Int32 × Int32) (S : St), lp (f_X11_laysEcho_127b ar x2 x4 e) n v S = some (r, S') → J K 127 [(0, .ref 122), (1, .ref ar), (2, .int x2), (4, .int x4), (5, .int v.1), (6, .int v.2)] [] S :=
  lp_J (P := fun (v : Int32 × Int32) (S : St) => J K 127 [(0, .ref 122), (1, .ref ar), (2, .int x2), (4, .int x4), (5, .int v.1), (6, .int v.2)] [] S) (fun k hk v S hf => by
    unfold f_X11_laysEcho_127b at hf
    refine j_iload hK dX11_laysEcho_127 5 rfl ?_
    refine j_if_lt hK 178 dX11_laysEcho_129 (by decide) (fun hc => ?_) (fun hc => ?_)
    · replace hf := if_1 hc hf
      refine j_sub [0, 1, 2, 3, 4] rfl ?_
      exact he _ _ hf
    · replace hf := if_2 hc hf
      refine j_aload_n hK dX11_laysEcho_132 0 rfl rfl ?_
      refine j_getI hK fl_X11_272 dX11_laysEcho_133 zo_122 zf_11_25 ?_
      refine j_iload_n hK dX11_laysEcho_136 2 rfl rfl ?_
      refine j_icmp_eq hK 178 dX11_laysEcho_137 (by decide) (fun hc => ?_) (fun hc => ?_)
      · replace hf := if_1 hc hf
        refine j_sub [0, 1, 2, 3, 4] rfl ?_
        exact he _ _ hf
      · replace hf := if_2 hc hf
        refine j_iload hK dX11_laysEcho_140 3 rfl ?_
        refine j_iload hK dX11_laysEcho_142 5 rfl ?_
        obtain ⟨r1, S2, h3, hf⟩ := bd_J hf
        refine k_callSi hK (c_X11_has h3) dX11_laysEcho_144 ml_X11_262 ms_X11_has in_X11 mc_X11_has hy_X11_has ⟨by decide, by decide⟩ rfl (Nat.le_of_ble_eq_true rfl) ?_
        refine j_if_eq hK 168 dX11_laysEcho_147 (by decide) (fun hc => ?_) (fun hc => ?_)
        · replace hf := if_1 hc hf
          exact t_X11_laysEcho_168 hK hA har hk he hf
        · replace hf := if_2 hc hf
          refine j_aload_n hK dX11_laysEcho_150 0 rfl rfl ?_
          refine j_iload hK dX11_laysEcho_151 5 rfl ?_
          refine j_aload_n hK dX11_laysEcho_153 0 rfl rfl ?_
          refine j_getI hK fl_X11_272 dX11_laysEcho_154 zo_122 zf_11_25 ?_
          obtain ⟨r4, S5, h6, hf⟩ := bd_J hf
          refine k_callVi hK (c_X11_isEnd h6) dX11_laysEcho_157 zclX11 zo_122 ml_X11_266 mi_X11_isEnd mx_X11_isEnd in_X11 mc_X11_isEnd hy_X11_isEnd ⟨by decide, by decide⟩ rfl (Nat.le_of_ble_eq_true rfl) ?_
          refine j_if_eq hK 168 dX11_laysEcho_160 (by decide) (fun hc => ?_) (fun hc => ?_)
          · replace hf := if_1 hc hf
            exact t_X11_laysEcho_168 hK hA har hk he hf
          · replace hf := if_2 hc hf
            refine j_iload hK dX11_laysEcho_163 5 rfl ?_
            refine j_goto hK 170 dX11_laysEcho_165 (by decide) ?_
            refine j_sub [0, 1, 2, 3, 5] rfl ?_
            exact t_X11_laysEcho_170 hK hA har hk he hf)
def f_X11_laysEcho_67 (ar : Nat) (x2 : Int32) (x4 : Int32) (x5 : Int32) (s1 : Int32) (s2 : Int32) (k e : Int32 × Int32 → St → Option (Unit × St)) (S : St) : Option (Unit × St) := if inb s1 12 then lt (sI S 135 s1.toNatClampNeg (vp_nar .boolean s2)) (fun S8 => lt (sI S8 122 24 ((gI S8 122 24) + (1 : Int32))) (fun S9 => lt (x4 &&& (((1 : Int32) <<< (x5 &&& 31)) ^^^ (-1 : Int32))) (fun y10 => if inb x5 39 then lt (sI S9 122 26 ((gI S9 122 26) + (gI S9 ar x5.toNatClampNeg))) (fun S12 => bd (f_X11_beyond x5 (gI S12 122 25) S12) (fun r13 S14 => lt (sI S14 122 25 r13) (fun S16 => lt ((gI S16 122 3) - (1 : Int32)) (fun y17 => lp (f_X11_laysEcho_127b ar x2 y10 (fun v18 S19 => k (y10, v18.1) S19)) FU ((-1 : Int32), y17) S16)))) else none))) else none
theorem t_X11_laysEcho_67 {K : CT} (hK : KO K cX11_laysEcho RX11 7 2 none) {r : Unit} {S' : St} (hA : zans K (none, S')) {ar : Nat} (har : zB 12 39 ar) {x2 : Int32} {x4 : Int32} {x5 : Int32} {s1 : Int32} {s2 : Int32} {k e : Int32 × Int32 → St → Option (Unit × St)} (hk : ∀ (v : Int32 × Int32) (S : St), k v S = some (r, S') → J K 24 [(0, .ref 122), (1, .ref ar), (2, .int x2), (4, .int v.1), (5, .int v.2)] [] S) (he : ∀ (v : Int32 × Int32) (S : St), e v S = some (r, S') → J K 181 [] [] S) {S : St} (hf : f_X11_laysEcho_67 ar x2 x4 x5 s1 s2 k e S = some (r, S')) : J K 67 [(0, .ref 122), (1, .ref ar), (2, .int x2), (4, .int x4), (5, .int x5)] [.int s2, .int s1, .ref 135] S := by
  unfold f_X11_laysEcho_67 at hf
  obtain ⟨hi7, hf⟩ := gd hf
  refine k_zast hK dX11_laysEcho_67 zb_135 hi7 rfl ?_
  refine lt_S hf (fun S8 hf => ?_)
  refine j_aload_n hK dX11_laysEcho_68 0 rfl rfl ?_
  refine j_dup hK dX11_laysEcho_69 rfl ?_
  refine j_getI hK fl_X11_269 dX11_laysEcho_70 zo_122 zf_11_24 ?_
  refine j_iconst hK (1 : Int32) dX11_laysEcho_73 ic_1 ?_
  refine j_iadd hK dX11_laysEcho_74 ?_
  refine j_putI hK fl_X11_269 dX11_laysEcho_75 zo_122 zf_11_24 ?_
  refine lt_S hf (fun S9 hf => ?_)
  refine j_iload hK dX11_laysEcho_78 3 rfl ?_
  refine j_pc (pc' := 80) rfl ?_
  refine j_iconst hK (1 : Int32) dX11_laysEcho_80 ic_1 ?_
  refine j_iload hK dX11_laysEcho_81 4 rfl ?_
  refine j_ishl hK dX11_laysEcho_83 ?_
  refine j_iconst hK (-1 : Int32) dX11_laysEcho_84 ic_m1 ?_
  refine j_ixor hK dX11_laysEcho_85 ?_
  refine j_iand hK dX11_laysEcho_86 ?_
  refine lt_I hf (fun y10 hf => ?_)
  refine j_istore hK (L' := [(4, .int y10), (0, .ref 122), (1, .ref ar), (2, .int x2), (5, .int x5)]) dX11_laysEcho_87 (by decide) rfl ?_
  refine j_aload_n hK dX11_laysEcho_89 1 rfl rfl ?_
  refine j_pc (pc' := 90) rfl ?_
  refine j_dup hK dX11_laysEcho_90 rfl ?_
  refine j_getI hK fl_X11_275 dX11_laysEcho_91 zo_122 zf_11_26 ?_
  refine j_aload_n hK dX11_laysEcho_94 2 rfl rfl ?_
  refine j_iload hK dX11_laysEcho_95 4 rfl ?_
  obtain ⟨hi11, hf⟩ := gd hf
  refine k_iald hK dX11_laysEcho_97 har hi11 rfl ?_
  refine j_iadd hK dX11_laysEcho_98 ?_
  refine j_putI hK fl_X11_275 dX11_laysEcho_99 zo_122 zf_11_26 ?_
  refine lt_S hf (fun S12 hf => ?_)
  refine j_aload_n hK dX11_laysEcho_102 1 rfl rfl ?_
  refine j_pc (pc' := 103) rfl ?_
  refine j_aload_n hK dX11_laysEcho_103 1 rfl rfl ?_
  refine j_iload hK dX11_laysEcho_104 4 rfl ?_
  refine j_aload_n hK dX11_laysEcho_106 1 rfl rfl ?_
  refine j_getI hK fl_X11_272 dX11_laysEcho_107 zo_122 zf_11_25 ?_
  obtain ⟨r13, S14, h15, hf⟩ := bd_J hf
  refine k_callVi hK (c_X11_beyond h15) dX11_laysEcho_110 zclX11 zo_122 ml_X11_278 mi_X11_beyond mx_X11_beyond in_X11 mc_X11_beyond hy_X11_beyond ⟨by decide, by decide⟩ rfl (Nat.le_of_ble_eq_true rfl) ?_
  refine j_putI hK fl_X11_272 dX11_laysEcho_113 zo_122 zf_11_25 ?_
  refine lt_S hf (fun S16 hf => ?_)
  refine j_iconst hK (-1 : Int32) dX11_laysEcho_116 ic_m1 ?_
  refine j_istore hK (L' := [(5, .int (-1 : Int32)), (4, .int y10), (0, .ref 122), (1, .ref ar), (2, .int x2)]) dX11_laysEcho_117 (by decide) rfl ?_
  refine j_pc (pc' := 119) rfl ?_
  refine j_aload_n hK dX11_laysEcho_119 2 rfl rfl ?_
  refine j_getI hK fl_X11_128 dX11_laysEcho_120 zo_122 zf_11_3 ?_
  refine j_iconst hK (1 : Int32) dX11_laysEcho_123 ic_1 ?_
  refine j_isub hK dX11_laysEcho_124 ?_
  refine lt_I hf (fun y17 hf => ?_)
  refine j_istore hK (L' := [(6, .int y17), (5, .int (-1 : Int32)), (4, .int y10), (0, .ref 122), (1, .ref ar), (2, .int x2)]) dX11_laysEcho_125 (by decide) rfl ?_
  refine j_sub [3, 4, 5, 2, 1, 0] rfl ?_
  refine t_X11_laysEcho_127 hK hA har (fun v18 S19 hf => ?_) _ _ _ hf
  refine j_goto hK 24 dX11_laysEcho_178 (by decide) ?_
  exact hk _ _ hf
def f_X11_laysEcho_24b (ar : Nat) (x2 : Int32) (e : Int32 × Int32 → St → Option (Unit × St)) (k : Int32 × Int32 → St → Option (Unit × St)) (v : Int32 × Int32) (S : St) : Option (Unit × St) := (if v.2 < 0 then e (v.1, v.2) S else if inb (gI S 122 24) 12 then lt (sI S 134 (gI S 122 24).toNatClampNeg v.2) (fun S21 => if inb v.2 12 then (if (gI S21 125 v.2.toNatClampNeg) = (gI S21 122 25) then f_X11_laysEcho_67 ar x2 v.1 v.2 (gI S21 122 24) (1 : Int32) k e S21 else f_X11_laysEcho_67 ar x2 v.1 v.2 (gI S21 122 24) (0 : Int32) k e S21) else none) else none)
theorem t_X11_laysEcho_24 {K : CT} (hK : KO K cX11_laysEcho RX11 7 2 none) {r : Unit} {S' : St} (hA : zans K (none, S')) {ar : Nat} (har : zB 12 39 ar) {x2 : Int32} {e : Int32 × Int32 → St → Option (Unit × St)} (he : ∀ (v : Int32 × Int32) (S : St), e v S = some (r, S') → J K 181 [] [] S) : ∀ (n : Nat) (v : Int32 × Int32) (S : St), lp (f_X11_laysEcho_24b ar x2 e) n v S = some (r, S') → J K 24 [(0, .ref 122), (1, .ref ar), (2, .int x2), (4, .int v.1), (5, .int v.2)] [] S :=
  lp_J (P := fun (v : Int32 × Int32) (S : St) => J K 24 [(0, .ref 122), (1, .ref ar), (2, .int x2), (4, .int v.1), (5, .int v.2)] [] S) (fun k hk v S hf => by
    unfold f_X11_laysEcho_24b at hf
    refine j_iload hK dX11_laysEcho_24 4 rfl ?_
    refine j_if_lt hK 181 dX11_laysEcho_26 (by decide) (fun hc => ?_) (fun hc => ?_)
    · replace hf := if_1 hc hf
      refine j_sub [] rfl ?_
      exact he _ _ hf
    · replace hf := if_2 hc hf
      refine j_aload_n hK dX11_laysEcho_29 0 rfl rfl ?_
      refine j_getR hK fl_X11_55 dX11_laysEcho_30 zo_122 zf_11_22 zr_122_22 ?_
      refine j_aload_n hK dX11_laysEcho_33 0 rfl rfl ?_
      refine j_getI hK fl_X11_269 dX11_laysEcho_34 zo_122 zf_11_24 ?_
      refine j_iload hK dX11_laysEcho_37 4 rfl ?_
      obtain ⟨hi20, hf⟩ := gd hf
      refine k_iast hK dX11_laysEcho_39 zb_134 hi20 rfl ?_
      refine lt_S hf (fun S21 hf => ?_)
      refine j_aload_n hK dX11_laysEcho_40 0 rfl rfl ?_
      refine j_pc (pc' := 41) rfl ?_
      refine j_getR hK fl_X11_58 dX11_laysEcho_41 zo_122 zf_11_23 zr_122_23 ?_
      refine j_aload_n hK dX11_laysEcho_44 0 rfl rfl ?_
      refine j_getI hK fl_X11_269 dX11_laysEcho_45 zo_122 zf_11_24 ?_
      refine j_aload_n hK dX11_laysEcho_48 0 rfl rfl ?_
      refine j_getR hK fl_X11_28 dX11_laysEcho_49 zo_122 zf_11_6 zr_122_6 ?_
      refine j_iload hK dX11_laysEcho_52 4 rfl ?_
      obtain ⟨hi22, hf⟩ := gd hf
      refine k_iald hK dX11_laysEcho_54 zb_125 hi22 rfl ?_
      refine j_aload_n hK dX11_laysEcho_55 0 rfl rfl ?_
      refine j_pc (pc' := 56) rfl ?_
      refine j_getI hK fl_X11_272 dX11_laysEcho_56 zo_122 zf_11_25 ?_
      refine j_icmp_ne hK 66 dX11_laysEcho_59 (by decide) (fun hc => ?_) (fun hc => ?_)
      · replace hf := if_2 hc hf
        refine j_iconst hK (0 : Int32) dX11_laysEcho_66 ic_0 ?_
        exact t_X11_laysEcho_67 hK hA har hk he hf
      · replace hf := if_1 hc hf
        refine j_iconst hK (1 : Int32) dX11_laysEcho_62 ic_1 ?_
        refine j_goto hK 67 dX11_laysEcho_63 (by decide) ?_
        exact t_X11_laysEcho_67 hK hA har hk he hf)
def f_X11_laysEcho (ar : Nat) (p2 : Int32) (p3 : Int32) (S : St) : Option (Unit × St) := lt (gI S ar 36) (fun y23 => lt (sI S 122 24 (0 : Int32)) (fun S24 => lt (sI S24 122 25 p2) (fun S25 => lt (sI S25 122 26 (0 : Int32)) (fun S26 => lp (f_X11_laysEcho_24b ar p2 (fun v27 S28 => some ((), S28))) FU (y23, p3) S26))))
theorem c_X11_laysEcho {ar : Nat} (har : zB 12 39 ar) {p2 : Int32} {p3 : Int32} {S : St} {r : Unit} {S' : St} (hf : f_X11_laysEcho ar p2 p3 S = some (r, S')) : zM yX11_laysEcho cX11_laysEcho 7 2 none [.ref 122, .ref ar, .int p2, .int p3] S (none) S' := by
  refine zM_of (zpl (by decide)) (Nat.le_of_ble_eq_true rfl) rfl (fun K hK hA => ?_)
  unfold f_X11_laysEcho at hf
  refine j_aload_n hK dX11_laysEcho_0 1 rfl rfl ?_
  refine j_bipush hK (36 : Int32) dX11_laysEcho_1 bi_36 ?_
  refine k_iald hK dX11_laysEcho_3 har (by decide) tn_36 ?_
  refine lt_I hf (fun y23 hf => ?_)
  refine j_istore hK (L' := [(4, .int y23), (0, .ref 122), (1, .ref ar), (2, .int p2), (3, .int p3)]) dX11_laysEcho_4 (by decide) rfl ?_
  refine j_iload_n hK dX11_laysEcho_6 4 rfl rfl ?_
  refine j_istore hK (L' := [(5, .int p3), (4, .int y23), (0, .ref 122), (1, .ref ar), (2, .int p2), (3, .int p3)]) dX11_laysEcho_7 (by decide) rfl ?_
  refine j_aload_n hK dX11_laysEcho_9 2 rfl rfl ?_
  refine j_iconst hK (0 : Int32) dX11_laysEcho_10 ic_0 ?_
  refine j_pc (pc' := 11) rfl ?_
  refine j_putI hK fl_X11_269 dX11_laysEcho_11 zo_122 zf_11_24 ?_
  refine lt_S hf (fun S24 hf => ?_)
  refine j_aload_n hK dX11_laysEcho_14 2 rfl rfl ?_
  refine j_iload_n hK dX11_laysEcho_15 4 rfl rfl ?_
  refine j_putI hK fl_X11_272 dX11_laysEcho_16 zo_122 zf_11_25 ?_
  refine lt_S hf (fun S25 hf => ?_)
  refine j_aload_n hK dX11_laysEcho_19 2 rfl rfl ?_
  refine j_iconst hK (0 : Int32) dX11_laysEcho_20 ic_0 ?_
  refine j_putI hK fl_X11_275 dX11_laysEcho_21 zo_122 zf_11_26 ?_
  refine lt_S hf (fun S26 hf => ?_)
  refine j_sub [2, 3, 4, 1, 0] rfl ?_
  refine t_X11_laysEcho_24 hK hA har (fun v27 S28 hf => ?_) _ _ _ hf
  exact j_vret hK dX11_laysEcho_181 rfl (rt_V hA hf)
def f_X11_comesOut_6b (ar : Nat) (x3 : Int32) (e : Int32 × Int32 → St → Option (Int32 × St)) (k : Int32 × Int32 → St → Option (Int32 × St)) (v : Int32 × Int32) (S : St) : Option (Int32 × St) := (if (gI S 122 24) ≤ v.2 then e (v.1, v.2) S else if inb v.2 12 then if inb v.2 12 then bd (f_X11_becomesBy ar (gI S 134 v.2.toNatClampNeg) (gI S 135 v.2.toNatClampNeg) v.1 x3 S) (fun r3 S4 => k (r3, (v.2 + (1 : Int32))) S4) else none else none)
theorem t_X11_comesOut_6 {K : CT} (hK : KO K cX11_comesOut RX11 6 5 (some .int)) {r : Int32} {S' : St} (hA : zans K (some (.int r), S')) {ar : Nat} (har : zB 12 39 ar) {x3 : Int32} {e : Int32 × Int32 → St → Option (Int32 × St)} (he : ∀ (v : Int32 × Int32) (S : St), e v S = some (r, S') → J K 45 [(4, .int v.1)] [] S) : ∀ (n : Nat) (v : Int32 × Int32) (S : St), lp (f_X11_comesOut_6b ar x3 e) n v S = some (r, S') → J K 6 [(0, .ref 122), (1, .ref ar), (3, .int x3), (4, .int v.1), (5, .int v.2)] [] S :=
  lp_J (P := fun (v : Int32 × Int32) (S : St) => J K 6 [(0, .ref 122), (1, .ref ar), (3, .int x3), (4, .int v.1), (5, .int v.2)] [] S) (fun k hk v S hf => by
    unfold f_X11_comesOut_6b at hf
    refine j_iload hK dX11_comesOut_6 4 rfl ?_
    refine j_aload_n hK dX11_comesOut_8 0 rfl rfl ?_
    refine j_getI hK fl_X11_269 dX11_comesOut_9 zo_122 zf_11_24 ?_
    refine j_icmp_ge hK 45 dX11_comesOut_12 (by decide) (fun hc => ?_) (fun hc => ?_)
    · replace hf := if_1 hc hf
      refine j_sub [3] rfl ?_
      exact he _ _ hf
    · replace hf := if_2 hc hf
      refine j_aload_n hK dX11_comesOut_15 0 rfl rfl ?_
      refine j_aload_n hK dX11_comesOut_16 1 rfl rfl ?_
      refine j_aload_n hK dX11_comesOut_17 0 rfl rfl ?_
      refine j_getR hK fl_X11_55 dX11_comesOut_18 zo_122 zf_11_22 zr_122_22 ?_
      refine j_iload hK dX11_comesOut_21 4 rfl ?_
      obtain ⟨hi1, hf⟩ := gd hf
      refine k_iald hK dX11_comesOut_23 zb_134 hi1 rfl ?_
      refine j_aload_n hK dX11_comesOut_24 0 rfl rfl ?_
      refine j_pc (pc' := 25) rfl ?_
      refine j_getR hK fl_X11_58 dX11_comesOut_25 zo_122 zf_11_23 zr_122_23 ?_
      refine j_iload hK dX11_comesOut_28 4 rfl ?_
      obtain ⟨hi2, hf⟩ := gd hf
      refine k_zald hK dX11_comesOut_30 zb_135 hi2 rfl ?_
      refine j_iload hK dX11_comesOut_31 3 rfl ?_
      refine j_iload_n hK dX11_comesOut_33 2 rfl rfl ?_
      obtain ⟨r3, S4, h5, hf⟩ := bd_J hf
      refine k_callVi hK (c_X11_becomesBy har h5) dX11_comesOut_34 zclX11 zo_122 ml_X11_281 mi_X11_becomesBy mx_X11_becomesBy in_X11 mc_X11_becomesBy hy_X11_becomesBy ⟨by decide, by decide⟩ rfl (Nat.le_of_ble_eq_true rfl) ?_
      refine j_istore hK (L' := [(4, .int r3), (0, .ref 122), (1, .ref ar), (3, .int x3), (5, .int v.2)]) dX11_comesOut_37 (by decide) rfl ?_
      refine j_iinc hK (L' := [(5, .int (v.2 + (1 : Int32))), (4, .int r3), (0, .ref 122), (1, .ref ar), (3, .int x3)]) dX11_comesOut_39 4 rfl (congrArg (fun y => v.2 + y) ic_1) (by decide) rfl ?_
      refine j_pc (pc' := 42) rfl ?_
      refine j_goto hK 6 dX11_comesOut_42 (by decide) ?_
      refine j_sub [2, 3, 4, 1, 0] rfl ?_
      exact hk _ _ hf)
def f_X11_comesOut (ar : Nat) (p2 : Int32) (p3 : Int32) (S : St) : Option (Int32 × St) := lp (f_X11_comesOut_6b ar p3 (fun v6 S7 => some (v6.1, S7))) FU (p2, (0 : Int32)) S
theorem c_X11_comesOut {ar : Nat} (har : zB 12 39 ar) {p2 : Int32} {p3 : Int32} {S : St} {r : Int32} {S' : St} (hf : f_X11_comesOut ar p2 p3 S = some (r, S')) : zM yX11_comesOut cX11_comesOut 6 5 (some .int) [.ref 122, .ref ar, .int p2, .int p3] S (some (.int r)) S' := by
  refine zM_of (zpl (by decide)) (Nat.le_of_ble_eq_true rfl) rfl (fun K hK hA => ?_)
  unfold f_X11_comesOut at hf
  refine j_iload_n hK dX11_comesOut_0 2 rfl rfl ?_
  refine j_istore hK (L' := [(4, .int p2), (0, .ref 122), (1, .ref ar), (2, .int p2), (3, .int p3)]) dX11_comesOut_1 (by decide) rfl ?_
  refine j_iconst hK (0 : Int32) dX11_comesOut_3 ic_0 ?_
  refine j_istore hK (L' := [(5, .int (0 : Int32)), (4, .int p2), (0, .ref 122), (1, .ref ar), (2, .int p2), (3, .int p3)]) dX11_comesOut_4 (by decide) rfl ?_
  refine j_sub [2, 3, 5, 1, 0] rfl ?_
  refine t_X11_comesOut_6 hK hA har (fun v6 S7 hf => ?_) _ _ _ hf
  refine j_iload hK dX11_comesOut_45 0 rfl ?_
  exact j_iret hK dX11_comesOut_47 rfl (rt_I hA hf)
def f_X11_passage_25 (S : St) : Option (Int32 × St) := bd (f_X11_refuse S) (fun r1 S2 => some (r1, S2))
theorem t_X11_passage_25 {K : CT} (hK : KO K cX11_passage RX11 3 3 (some .int)) {r : Int32} {S' : St} (hA : zans K (some (.int r), S')) {S : St} (hf : f_X11_passage_25  S = some (r, S')) : J K 25 [(0, .ref 122)] [] S := by
  unfold f_X11_passage_25 at hf
  refine j_aload_n hK dX11_passage_25 0 rfl rfl ?_
  obtain ⟨r1, S2, h3, hf⟩ := bd_J hf
  refine k_callVi hK (c_X11_refuse h3) dX11_passage_26 zclX11 zo_122 ml_X11_287 mi_X11_refuse mx_X11_refuse in_X11 mc_X11_refuse hy_X11_refuse ⟨by decide, by decide⟩ rfl (Nat.le_of_ble_eq_true rfl) ?_
  exact j_iret hK dX11_passage_29 rfl (rt_I hA hf)
def f_X11_passage (p1 : Int32) (p2 : Int32) (S : St) : Option (Int32 × St) := lt (sI S 122 0 (0 : Int32)) (fun S4 => bd (f_X11_isPassage p1 S4) (fun r5 S6 => (if r5 = 0 then f_X11_passage_25  S6 else bd (f_X11_in p2.toInt64 (0 : Int64) (5 : Int64) S6) (fun r8 S9 => (if r8 = 0 then f_X11_passage_25  S9 else (if p2 = (0 : Int32) then if inb p1 12 then some ((gI S9 124 p1.toNatClampNeg), S9) else none else (if p2 = (1 : Int32) then if inb p1 12 then some ((gI S9 125 p1.toNatClampNeg), S9) else none else (if p2 = (2 : Int32) then if inb p1 39 then some ((gI S9 126 p1.toNatClampNeg), S9) else none else (if p2 = (3 : Int32) then if inb ((12 : Int32) + p1) 39 then some ((gI S9 126 ((12 : Int32) + p1).toNatClampNeg), S9) else none else (if p2 = (4 : Int32) then if inb ((24 : Int32) + p1) 39 then some ((gI S9 126 ((24 : Int32) + p1).toNatClampNeg), S9) else none else bd (f_X11_has (gI S9 126 36) p1 S9) (fun r21 S22 => bd (f_X11_flag r21 S22) (fun r24 S25 => some (r24, S25)))))))))))))
theorem c_X11_passage {p1 : Int32} {p2 : Int32} {S : St} {r : Int32} {S' : St} (hf : f_X11_passage p1 p2 S = some (r, S')) : zM yX11_passage cX11_passage 3 3 (some .int) [.ref 122, .int p1, .int p2] S (some (.int r)) S' := by
  refine zM_of (zpl (by decide)) (Nat.le_of_ble_eq_true rfl) rfl (fun K hK hA => ?_)
  unfold f_X11_passage at hf
  refine j_aload_n hK dX11_passage_0 0 rfl rfl ?_
  refine j_iconst hK (0 : Int32) dX11_passage_1 ic_0 ?_
  refine j_putI hK fl_X11_3 dX11_passage_2 zo_122 zf_11_0 ?_
  refine lt_S hf (fun S4 hf => ?_)
  refine j_aload_n hK dX11_passage_5 0 rfl rfl ?_
  refine j_iload_n hK dX11_passage_6 1 rfl rfl ?_
  obtain ⟨r5, S6, h7, hf⟩ := bd_J hf
  refine k_callVi hK (c_X11_isPassage h7) dX11_passage_7 zclX11 zo_122 ml_X11_259 mi_X11_isPassage mx_X11_isPassage in_X11 mc_X11_isPassage hy_X11_isPassage ⟨by decide, by decide⟩ rfl (Nat.le_of_ble_eq_true rfl) ?_
  refine j_if_eq hK 25 dX11_passage_10 (by decide) (fun hc => ?_) (fun hc => ?_)
  · replace hf := if_1 hc hf
    refine j_sub [0] rfl ?_
    exact t_X11_passage_25 hK hA  hf
  · replace hf := if_2 hc hf
    refine j_iload_n hK dX11_passage_13 2 rfl rfl ?_
    refine j_i2l hK dX11_passage_14 ?_
    refine j_lconst hK (0 : Int64) dX11_passage_15 lc_0 ?_
    refine j_ldc2 hK (v := (5 : Int64)) cl_X11_285 dX11_passage_16 ?_
    obtain ⟨r8, S9, h10, hf⟩ := bd_J hf
    refine k_callSi hK (c_X11_in h10) dX11_passage_19 ml_X11_131 ms_X11_in in_X11 mc_X11_in hy_X11_in ⟨by decide, by decide⟩ rfl (Nat.le_of_ble_eq_true rfl) ?_
    refine j_if_ne hK 30 dX11_passage_22 (by decide) (fun hc => ?_) (fun hc => ?_)
    · replace hf := if_2 hc hf
      refine j_iload_n hK dX11_passage_30 2 rfl rfl ?_
      by_cases hs11 : p2 = (0 : Int32)
      · replace hf := if_1 hs11 hf
        refine j_tabC hK (0 : Int32) 64 dX11_passage_31 hs11 (by decide) rfl (by decide) ?_
        refine j_aload_n hK dX11_passage_64 0 rfl rfl ?_
        refine j_getR hK fl_X11_24 dX11_passage_65 zo_122 zf_11_5 zr_122_5 ?_
        refine j_iload_n hK dX11_passage_68 1 rfl rfl ?_
        obtain ⟨hi12, hf⟩ := gd hf
        refine k_iald hK dX11_passage_69 zb_124 hi12 rfl ?_
        exact j_iret hK dX11_passage_70 rfl (rt_I hA hf)
      · replace hf := if_2 hs11 hf
        by_cases hs13 : p2 = (1 : Int32)
        · replace hf := if_1 hs13 hf
          refine j_tabC hK (1 : Int32) 71 dX11_passage_31 hs13 (by decide) rfl (by decide) ?_
          refine j_aload_n hK dX11_passage_71 0 rfl rfl ?_
          refine j_getR hK fl_X11_28 dX11_passage_72 zo_122 zf_11_6 zr_122_6 ?_
          refine j_iload_n hK dX11_passage_75 1 rfl rfl ?_
          obtain ⟨hi14, hf⟩ := gd hf
          refine k_iald hK dX11_passage_76 zb_125 hi14 rfl ?_
          exact j_iret hK dX11_passage_77 rfl (rt_I hA hf)
        · replace hf := if_2 hs13 hf
          by_cases hs15 : p2 = (2 : Int32)
          · replace hf := if_1 hs15 hf
            refine j_tabC hK (2 : Int32) 78 dX11_passage_31 hs15 (by decide) rfl (by decide) ?_
            refine j_aload_n hK dX11_passage_78 0 rfl rfl ?_
            refine j_getR hK fl_X11_31 dX11_passage_79 zo_122 zf_11_7 zr_122_7 ?_
            refine j_iload_n hK dX11_passage_82 1 rfl rfl ?_
            obtain ⟨hi16, hf⟩ := gd hf
            refine k_iald hK dX11_passage_83 zb_126 hi16 rfl ?_
            exact j_iret hK dX11_passage_84 rfl (rt_I hA hf)
          · replace hf := if_2 hs15 hf
            by_cases hs17 : p2 = (3 : Int32)
            · replace hf := if_1 hs17 hf
              refine j_tabC hK (3 : Int32) 85 dX11_passage_31 hs17 (by decide) rfl (by decide) ?_
              refine j_aload_n hK dX11_passage_85 0 rfl rfl ?_
              refine j_getR hK fl_X11_31 dX11_passage_86 zo_122 zf_11_7 zr_122_7 ?_
              refine j_bipush hK (12 : Int32) dX11_passage_89 bi_12 ?_
              refine j_iload_n hK dX11_passage_91 1 rfl rfl ?_
              refine j_iadd hK dX11_passage_92 ?_
              obtain ⟨hi18, hf⟩ := gd hf
              refine k_iald hK dX11_passage_93 zb_126 hi18 rfl ?_
              exact j_iret hK dX11_passage_94 rfl (rt_I hA hf)
            · replace hf := if_2 hs17 hf
              by_cases hs19 : p2 = (4 : Int32)
              · replace hf := if_1 hs19 hf
                refine j_tabC hK (4 : Int32) 95 dX11_passage_31 hs19 (by decide) rfl (by decide) ?_
                refine j_aload_n hK dX11_passage_95 0 rfl rfl ?_
                refine j_getR hK fl_X11_31 dX11_passage_96 zo_122 zf_11_7 zr_122_7 ?_
                refine j_bipush hK (24 : Int32) dX11_passage_99 bi_24 ?_
                refine j_iload_n hK dX11_passage_101 1 rfl rfl ?_
                refine j_iadd hK dX11_passage_102 ?_
                obtain ⟨hi20, hf⟩ := gd hf
                refine k_iald hK dX11_passage_103 zb_126 hi20 rfl ?_
                exact j_iret hK dX11_passage_104 rfl (rt_I hA hf)
              · replace hf := if_2 hs19 hf
                refine j_tabOut hK 105 dX11_passage_31 (by have q := And.intro (ne_toInt 0 (by decide) hs11) (And.intro (ne_toInt 1 (by decide) hs13) (And.intro (ne_toInt 2 (by decide) hs15) (And.intro (ne_toInt 3 (by decide) hs17) (And.intro (ne_toInt 4 (by decide) hs19) trivial)))); omega) (by decide) ?_
                refine j_aload_n hK dX11_passage_105 0 rfl rfl ?_
                refine j_getR hK fl_X11_31 dX11_passage_106 zo_122 zf_11_7 zr_122_7 ?_
                refine j_bipush hK (36 : Int32) dX11_passage_109 bi_36 ?_
                refine k_iald hK dX11_passage_111 zb_126 (by decide) tn_36 ?_
                refine j_iload_n hK dX11_passage_112 1 rfl rfl ?_
                obtain ⟨r21, S22, h23, hf⟩ := bd_J hf
                refine k_callSi hK (c_X11_has h23) dX11_passage_113 ml_X11_262 ms_X11_has in_X11 mc_X11_has hy_X11_has ⟨by decide, by decide⟩ rfl (Nat.le_of_ble_eq_true rfl) ?_
                obtain ⟨r24, S25, h26, hf⟩ := bd_J hf
                refine k_callSi hK (c_X11_flag h26) dX11_passage_116 ml_X11_155 ms_X11_flag in_X11 mc_X11_flag hy_X11_flag ⟨by decide, by decide⟩ rfl (Nat.le_of_ble_eq_true rfl) ?_
                refine j_pc (pc' := 119) rfl ?_
                exact j_iret hK dX11_passage_119 rfl (rt_I hA hf)
    · replace hf := if_1 hc hf
      refine j_sub [0] rfl ?_
      exact t_X11_passage_25 hK hA  hf
def f_X11_farOf (p1 : Int32) (p2 : Int32) (S : St) : Option (Int32 × St) := if inb (((8 : Int32) * p1) + p2) 64 then some ((gI S 136 (((8 : Int32) * p1) + p2).toNatClampNeg), S) else none
theorem c_X11_farOf {p1 : Int32} {p2 : Int32} {S : St} {r : Int32} {S' : St} (hf : f_X11_farOf p1 p2 S = some (r, S')) : zM yX11_farOf cX11_farOf 3 1 (some .int) [.ref 122, .int p1, .int p2] S (some (.int r)) S' := by
  refine zM_of (zpl (by decide)) (Nat.le_of_ble_eq_true rfl) rfl (fun K hK hA => ?_)
  unfold f_X11_farOf at hf
  refine j_aload_n hK dX11_farOf_0 0 rfl rfl ?_
  refine j_getR hK fl_X11_62 dX11_farOf_1 zo_122 zf_11_27 zr_122_27 ?_
  refine j_bipush hK (8 : Int32) dX11_farOf_4 bi_8 ?_
  refine j_iload_n hK dX11_farOf_6 1 rfl rfl ?_
  refine j_imul hK dX11_farOf_7 ?_
  refine j_iload_n hK dX11_farOf_8 2 rfl rfl ?_
  refine j_iadd hK dX11_farOf_9 ?_
  obtain ⟨hi1, hf⟩ := gd hf
  refine k_iald hK dX11_farOf_10 zb_136 hi1 rfl ?_
  refine j_pc (pc' := 11) rfl ?_
  exact j_iret hK dX11_farOf_11 rfl (rt_I hA hf)
def f_X11_laysFar_55b (x1 : Int32) (x2 : Int32) (x3 : Int32) (e : Int32 → St → Option (Unit × St)) (k : Int32 → St → Option (Unit × St)) (v : Int32) (S : St) : Option (Unit × St) := (if (8 : Int32) ≤ v then e v S else bd (f_X11_has x1 x3 S) (fun r1 S2 => (if r1 = 0 then e v S2 else if inb x3 12 then lt (((8 : Int32) * v) + (gI S2 124 x3.toNatClampNeg)) (fun y5 => if inb x3 12 then lt (((8 : Int32) * v) + (gI S2 125 x3.toNatClampNeg)) (fun y7 => if inb y5 64 then if inb y7 64 then if inb x3 39 then if inb y5 64 then lt (sI S2 136 y5.toNatClampNeg (mnI (gI S2 136 y5.toNatClampNeg) ((gI S2 136 y7.toNatClampNeg) + (gI S2 126 x3.toNatClampNeg)))) (fun S12 => if inb y7 64 then if inb y5 64 then if inb x3 39 then if inb y7 64 then lt (sI S12 136 y7.toNatClampNeg (mnI (gI S12 136 y7.toNatClampNeg) ((gI S12 136 y5.toNatClampNeg) + (gI S12 126 x3.toNatClampNeg)))) (fun S17 => k (v + (1 : Int32)) S17) else none else none else none else none) else none else none else none else none) else none) else none)))
theorem t_X11_laysFar_55 {K : CT} (hK : KO K cX11_laysFar RX11 7 2 none) {r : Unit} {S' : St} (hA : zans K (none, S')) {x1 : Int32} {x2 : Int32} {x3 : Int32} {e : Int32 → St → Option (Unit × St)} (he : ∀ (v : Int32) (S : St), e v S = some (r, S') → J K 166 [(0, .ref 122), (1, .int x1), (2, .int x2), (3, .int x3)] [] S) : ∀ (n : Nat) (v : Int32) (S : St), lp (f_X11_laysFar_55b x1 x2 x3 e) n v S = some (r, S') → J K 55 [(0, .ref 122), (1, .int x1), (2, .int x2), (3, .int x3), (4, .int v)] [] S :=
  lp_J (P := fun (v : Int32) (S : St) => J K 55 [(0, .ref 122), (1, .int x1), (2, .int x2), (3, .int x3), (4, .int v)] [] S) (fun k hk v S hf => by
    unfold f_X11_laysFar_55b at hf
    refine j_iload hK dX11_laysFar_55 4 rfl ?_
    refine j_bipush hK (8 : Int32) dX11_laysFar_57 bi_8 ?_
    refine j_icmp_ge hK 166 dX11_laysFar_59 (by decide) (fun hc => ?_) (fun hc => ?_)
    · replace hf := if_1 hc hf
      refine j_sub [0, 1, 2, 3] rfl ?_
      exact he _ _ hf
    · replace hf := if_2 hc hf
      refine j_iload_n hK dX11_laysFar_62 1 rfl rfl ?_
      refine j_iload_n hK dX11_laysFar_63 3 rfl rfl ?_
      obtain ⟨r1, S2, h3, hf⟩ := bd_J hf
      refine k_callSi hK (c_X11_has h3) dX11_laysFar_64 ml_X11_262 ms_X11_has in_X11 mc_X11_has hy_X11_has ⟨by decide, by decide⟩ rfl (Nat.le_of_ble_eq_true rfl) ?_
      refine j_if_eq hK 166 dX11_laysFar_67 (by decide) (fun hc => ?_) (fun hc => ?_)
      · replace hf := if_1 hc hf
        refine j_sub [0, 1, 2, 3] rfl ?_
        exact he _ _ hf
      · replace hf := if_2 hc hf
        refine j_bipush hK (8 : Int32) dX11_laysFar_70 bi_8 ?_
        refine j_iload hK dX11_laysFar_72 4 rfl ?_
        refine j_imul hK dX11_laysFar_74 ?_
        refine j_aload_n hK dX11_laysFar_75 0 rfl rfl ?_
        refine j_getR hK fl_X11_24 dX11_laysFar_76 zo_122 zf_11_5 zr_122_5 ?_
        refine j_iload_n hK dX11_laysFar_79 3 rfl rfl ?_
        obtain ⟨hi4, hf⟩ := gd hf
        refine k_iald hK dX11_laysFar_80 zb_124 hi4 rfl ?_
        refine j_pc (pc' := 81) rfl ?_
        refine j_iadd hK dX11_laysFar_81 ?_
        refine lt_I hf (fun y5 hf => ?_)
        refine j_istore hK (L' := [(5, .int y5), (0, .ref 122), (1, .int x1), (2, .int x2), (3, .int x3), (4, .int v)]) dX11_laysFar_82 (by decide) rfl ?_
        refine j_bipush hK (8 : Int32) dX11_laysFar_84 bi_8 ?_
        refine j_iload hK dX11_laysFar_86 5 rfl ?_
        refine j_imul hK dX11_laysFar_88 ?_
        refine j_aload_n hK dX11_laysFar_89 1 rfl rfl ?_
        refine j_getR hK fl_X11_28 dX11_laysFar_90 zo_122 zf_11_6 zr_122_6 ?_
        refine j_iload_n hK dX11_laysFar_93 4 rfl rfl ?_
        refine j_pc (pc' := 94) rfl ?_
        obtain ⟨hi6, hf⟩ := gd hf
        refine k_iald hK dX11_laysFar_94 zb_125 hi6 rfl ?_
        refine j_iadd hK dX11_laysFar_95 ?_
        refine lt_I hf (fun y7 hf => ?_)
        refine j_istore hK (L' := [(6, .int y7), (5, .int y5), (0, .ref 122), (1, .int x1), (2, .int x2), (3, .int x3), (4, .int v)]) dX11_laysFar_96 (by decide) rfl ?_
        refine j_aload_n hK dX11_laysFar_98 2 rfl rfl ?_
        refine j_getR hK fl_X11_62 dX11_laysFar_99 zo_122 zf_11_27 zr_122_27 ?_
        refine j_iload hK dX11_laysFar_102 1 rfl ?_
        refine j_aload_n hK dX11_laysFar_104 2 rfl rfl ?_
        refine j_getR hK fl_X11_62 dX11_laysFar_105 zo_122 zf_11_27 zr_122_27 ?_
        refine j_pc (pc' := 108) rfl ?_
        refine j_iload hK dX11_laysFar_108 1 rfl ?_
        obtain ⟨hi8, hf⟩ := gd hf
        refine k_iald hK dX11_laysFar_110 zb_136 hi8 rfl ?_
        refine j_aload_n hK dX11_laysFar_111 2 rfl rfl ?_
        refine j_getR hK fl_X11_62 dX11_laysFar_112 zo_122 zf_11_27 zr_122_27 ?_
        refine j_iload hK dX11_laysFar_115 0 rfl ?_
        obtain ⟨hi9, hf⟩ := gd hf
        refine k_iald hK dX11_laysFar_117 zb_136 hi9 rfl ?_
        refine j_aload_n hK dX11_laysFar_118 2 rfl rfl ?_
        refine j_getR hK fl_X11_31 dX11_laysFar_119 zo_122 zf_11_7 zr_122_7 ?_
        refine j_pc (pc' := 122) rfl ?_
        refine j_iload_n hK dX11_laysFar_122 5 rfl rfl ?_
        obtain ⟨hi10, hf⟩ := gd hf
        refine k_iald hK dX11_laysFar_123 zb_126 hi10 rfl ?_
        refine j_iadd hK dX11_laysFar_124 ?_
        refine j_min hK ml_X11_146 dX11_laysFar_125 (by decide) (Nat.le_of_ble_eq_true rfl) ?_
        obtain ⟨hi11, hf⟩ := gd hf
        refine k_iast hK dX11_laysFar_128 zb_136 hi11 rfl ?_
        refine lt_S hf (fun S12 hf => ?_)
        refine j_aload_n hK dX11_laysFar_129 2 rfl rfl ?_
        refine j_getR hK fl_X11_62 dX11_laysFar_130 zo_122 zf_11_27 zr_122_27 ?_
        refine j_iload hK dX11_laysFar_133 0 rfl ?_
        refine j_pc (pc' := 135) rfl ?_
        refine j_aload_n hK dX11_laysFar_135 2 rfl rfl ?_
        refine j_getR hK fl_X11_62 dX11_laysFar_136 zo_122 zf_11_27 zr_122_27 ?_
        refine j_iload hK dX11_laysFar_139 0 rfl ?_
        obtain ⟨hi13, hf⟩ := gd hf
        refine k_iald hK dX11_laysFar_141 zb_136 hi13 rfl ?_
        refine j_aload_n hK dX11_laysFar_142 2 rfl rfl ?_
        refine j_getR hK fl_X11_62 dX11_laysFar_143 zo_122 zf_11_27 zr_122_27 ?_
        refine j_iload hK dX11_laysFar_146 1 rfl ?_
        obtain ⟨hi14, hf⟩ := gd hf
        refine k_iald hK dX11_laysFar_148 zb_136 hi14 rfl ?_
        refine j_pc (pc' := 149) rfl ?_
        refine j_aload_n hK dX11_laysFar_149 2 rfl rfl ?_
        refine j_getR hK fl_X11_31 dX11_laysFar_150 zo_122 zf_11_7 zr_122_7 ?_
        refine j_iload_n hK dX11_laysFar_153 5 rfl rfl ?_
        obtain ⟨hi15, hf⟩ := gd hf
        refine k_iald hK dX11_laysFar_154 zb_126 hi15 rfl ?_
        refine j_iadd hK dX11_laysFar_155 ?_
        refine j_min hK ml_X11_146 dX11_laysFar_156 (by decide) (Nat.le_of_ble_eq_true rfl) ?_
        obtain ⟨hi16, hf⟩ := gd hf
        refine k_iast hK dX11_laysFar_159 zb_136 hi16 rfl ?_
        refine lt_S hf (fun S17 hf => ?_)
        refine j_iinc hK (L' := [(4, .int (v + (1 : Int32))), (6, .int y7), (5, .int y5), (0, .ref 122), (1, .int x1), (2, .int x2), (3, .int x3)]) dX11_laysFar_160 6 rfl (congrArg (fun y => v + y) ic_1) (by decide) rfl ?_
        refine j_pc (pc' := 163) rfl ?_
        refine j_goto hK 55 dX11_laysFar_163 (by decide) ?_
        refine j_sub [3, 4, 5, 6, 0] rfl ?_
        exact hk _ _ hf)
def f_X11_laysFar_44b (x1 : Int32) (x2 : Int32) (e : Int32 → St → Option (Unit × St)) (k : Int32 → St → Option (Unit × St)) (v : Int32) (S : St) : Option (Unit × St) := (if (gI S 122 3) ≤ v then e v S else lp (f_X11_laysFar_55b x1 x2 v (fun v18 S19 => k (v + (1 : Int32)) S19)) FU (0 : Int32) S)
theorem t_X11_laysFar_44 {K : CT} (hK : KO K cX11_laysFar RX11 7 2 none) {r : Unit} {S' : St} (hA : zans K (none, S')) {x1 : Int32} {x2 : Int32} {e : Int32 → St → Option (Unit × St)} (he : ∀ (v : Int32) (S : St), e v S = some (r, S') → J K 172 [(0, .ref 122), (1, .int x1), (2, .int x2)] [] S) : ∀ (n : Nat) (v : Int32) (S : St), lp (f_X11_laysFar_44b x1 x2 e) n v S = some (r, S') → J K 44 [(0, .ref 122), (1, .int x1), (2, .int x2), (3, .int v)] [] S :=
  lp_J (P := fun (v : Int32) (S : St) => J K 44 [(0, .ref 122), (1, .int x1), (2, .int x2), (3, .int v)] [] S) (fun k hk v S hf => by
    unfold f_X11_laysFar_44b at hf
    refine j_iload_n hK dX11_laysFar_44 3 rfl rfl ?_
    refine j_aload_n hK dX11_laysFar_45 0 rfl rfl ?_
    refine j_getI hK fl_X11_128 dX11_laysFar_46 zo_122 zf_11_3 ?_
    refine j_icmp_ge hK 172 dX11_laysFar_49 (by decide) (fun hc => ?_) (fun hc => ?_)
    · replace hf := if_1 hc hf
      refine j_sub [0, 1, 2] rfl ?_
      exact he _ _ hf
    · replace hf := if_2 hc hf
      refine j_iconst hK (0 : Int32) dX11_laysFar_52 ic_0 ?_
      refine j_istore hK (L' := [(4, .int (0 : Int32)), (0, .ref 122), (1, .int x1), (2, .int x2), (3, .int v)]) dX11_laysFar_53 (by decide) rfl ?_
      refine j_sub [1, 2, 3, 4, 0] rfl ?_
      refine t_X11_laysFar_55 hK hA  (fun v18 S19 hf => ?_) _ _ _ hf
      refine j_iinc hK (L' := [(3, .int (v + (1 : Int32))), (0, .ref 122), (1, .int x1), (2, .int x2)]) dX11_laysFar_166 3 rfl (congrArg (fun y => v + y) ic_1) (by decide) rfl ?_
      refine j_goto hK 44 dX11_laysFar_169 (by decide) ?_
      refine j_sub [1, 2, 3, 0] rfl ?_
      exact hk _ _ hf)
def f_X11_laysFar_36b (x1 : Int32) (e : Int32 → St → Option (Unit × St)) (k : Int32 → St → Option (Unit × St)) (v : Int32) (S : St) : Option (Unit × St) := (if (8 : Int32) ≤ v then e v S else lp (f_X11_laysFar_44b x1 v (fun v20 S21 => k (v + (1 : Int32)) S21)) FU (0 : Int32) S)
theorem t_X11_laysFar_36 {K : CT} (hK : KO K cX11_laysFar RX11 7 2 none) {r : Unit} {S' : St} (hA : zans K (none, S')) {x1 : Int32} {e : Int32 → St → Option (Unit × St)} (he : ∀ (v : Int32) (S : St), e v S = some (r, S') → J K 178 [] [] S) : ∀ (n : Nat) (v : Int32) (S : St), lp (f_X11_laysFar_36b x1 e) n v S = some (r, S') → J K 36 [(0, .ref 122), (1, .int x1), (2, .int v)] [] S :=
  lp_J (P := fun (v : Int32) (S : St) => J K 36 [(0, .ref 122), (1, .int x1), (2, .int v)] [] S) (fun k hk v S hf => by
    unfold f_X11_laysFar_36b at hf
    refine j_iload_n hK dX11_laysFar_36 2 rfl rfl ?_
    refine j_bipush hK (8 : Int32) dX11_laysFar_37 bi_8 ?_
    refine j_icmp_ge hK 178 dX11_laysFar_39 (by decide) (fun hc => ?_) (fun hc => ?_)
    · replace hf := if_1 hc hf
      refine j_sub [] rfl ?_
      exact he _ _ hf
    · replace hf := if_2 hc hf
      refine j_iconst hK (0 : Int32) dX11_laysFar_42 ic_0 ?_
      refine j_istore_n hK (L' := [(3, .int (0 : Int32)), (0, .ref 122), (1, .int x1), (2, .int v)]) dX11_laysFar_43 rfl (by decide) rfl ?_
      refine j_sub [1, 2, 3, 0] rfl ?_
      refine t_X11_laysFar_44 hK hA  (fun v20 S21 hf => ?_) _ _ _ hf
      refine j_iinc hK (L' := [(2, .int (v + (1 : Int32))), (0, .ref 122), (1, .int x1)]) dX11_laysFar_172 2 rfl (congrArg (fun y => v + y) ic_1) (by decide) rfl ?_
      refine j_goto hK 36 dX11_laysFar_175 (by decide) ?_
      refine j_sub [1, 2, 0] rfl ?_
      exact hk _ _ hf)
def f_X11_laysFar_27 (x1 : Int32) (x2 : Int32) (s1 : Int32) (s2 : Int32) (k e : Int32 → St → Option (Unit × St)) (S : St) : Option (Unit × St) := if inb s1 64 then lt (sI S 136 s1.toNatClampNeg s2) (fun S23 => k (x2 + (1 : Int32)) S23) else none
theorem t_X11_laysFar_27 {K : CT} (hK : KO K cX11_laysFar RX11 7 2 none) {r : Unit} {S' : St} (hA : zans K (none, S')) {x1 : Int32} {x2 : Int32} {s1 : Int32} {s2 : Int32} {k e : Int32 → St → Option (Unit × St)} (hk : ∀ (v : Int32) (S : St), k v S = some (r, S') → J K 2 [(0, .ref 122), (1, .int x1), (2, .int v)] [] S) (he : ∀ (v : Int32) (S : St), e v S = some (r, S') → J K 34 [(0, .ref 122), (1, .int x1)] [] S) {S : St} (hf : f_X11_laysFar_27 x1 x2 s1 s2 k e S = some (r, S')) : J K 27 [(0, .ref 122), (1, .int x1), (2, .int x2)] [.int s2, .int s1, .ref 136] S := by
  unfold f_X11_laysFar_27 at hf
  obtain ⟨hi22, hf⟩ := gd hf
  refine k_iast hK dX11_laysFar_27 zb_136 hi22 rfl ?_
  refine lt_S hf (fun S23 hf => ?_)
  refine j_iinc hK (L' := [(2, .int (x2 + (1 : Int32))), (0, .ref 122), (1, .int x1)]) dX11_laysFar_28 2 rfl (congrArg (fun y => x2 + y) ic_1) (by decide) rfl ?_
  refine j_goto hK 2 dX11_laysFar_31 (by decide) ?_
  refine j_sub [1, 2, 0] rfl ?_
  exact hk _ _ hf
def f_X11_laysFar_2b (x1 : Int32) (e : Int32 → St → Option (Unit × St)) (k : Int32 → St → Option (Unit × St)) (v : Int32) (S : St) : Option (Unit × St) := (if (64 : Int32) ≤ v then e v S else (if (v - v / (9 : Int32) * (9 : Int32)) = 0 then f_X11_laysFar_27 x1 v v (0 : Int32) k e S else f_X11_laysFar_27 x1 v v (1000000 : Int32) k e S))
theorem t_X11_laysFar_2 {K : CT} (hK : KO K cX11_laysFar RX11 7 2 none) {r : Unit} {S' : St} (hA : zans K (none, S')) {x1 : Int32} {e : Int32 → St → Option (Unit × St)} (he : ∀ (v : Int32) (S : St), e v S = some (r, S') → J K 34 [(0, .ref 122), (1, .int x1)] [] S) : ∀ (n : Nat) (v : Int32) (S : St), lp (f_X11_laysFar_2b x1 e) n v S = some (r, S') → J K 2 [(0, .ref 122), (1, .int x1), (2, .int v)] [] S :=
  lp_J (P := fun (v : Int32) (S : St) => J K 2 [(0, .ref 122), (1, .int x1), (2, .int v)] [] S) (fun k hk v S hf => by
    unfold f_X11_laysFar_2b at hf
    refine j_iload_n hK dX11_laysFar_2 2 rfl rfl ?_
    refine j_bipush hK (64 : Int32) dX11_laysFar_3 bi_64 ?_
    refine j_icmp_ge hK 34 dX11_laysFar_5 (by decide) (fun hc => ?_) (fun hc => ?_)
    · replace hf := if_1 hc hf
      refine j_sub [0, 1] rfl ?_
      exact he _ _ hf
    · replace hf := if_2 hc hf
      refine j_aload_n hK dX11_laysFar_8 0 rfl rfl ?_
      refine j_getR hK fl_X11_62 dX11_laysFar_9 zo_122 zf_11_27 zr_122_27 ?_
      refine j_iload_n hK dX11_laysFar_12 2 rfl rfl ?_
      refine j_iload_n hK dX11_laysFar_13 2 rfl rfl ?_
      refine j_bipush hK (9 : Int32) dX11_laysFar_14 bi_9 ?_
      refine j_irem hK dX11_laysFar_16 (by decide) ?_
      refine j_if_ne hK 24 dX11_laysFar_17 (by decide) (fun hc => ?_) (fun hc => ?_)
      · replace hf := if_2 hc hf
        refine j_ldcw hK (v := (1000000 : Int32)) cn_X11_290 dX11_laysFar_24 ?_
        exact t_X11_laysFar_27 hK hA hk he hf
      · replace hf := if_1 hc hf
        refine j_iconst hK (0 : Int32) dX11_laysFar_20 ic_0 ?_
        refine j_goto hK 27 dX11_laysFar_21 (by decide) ?_
        exact t_X11_laysFar_27 hK hA hk he hf)
def f_X11_laysFar (p1 : Int32) (S : St) : Option (Unit × St) := lp (f_X11_laysFar_2b p1 (fun v24 S25 => lp (f_X11_laysFar_36b p1 (fun v26 S27 => some ((), S27))) FU (0 : Int32) S25)) FU (0 : Int32) S
theorem c_X11_laysFar {p1 : Int32} {S : St} {r : Unit} {S' : St} (hf : f_X11_laysFar p1 S = some (r, S')) : zM yX11_laysFar cX11_laysFar 7 2 none [.ref 122, .int p1] S (none) S' := by
  refine zM_of (zpl (by decide)) (Nat.le_of_ble_eq_true rfl) rfl (fun K hK hA => ?_)
  unfold f_X11_laysFar at hf
  refine j_iconst hK (0 : Int32) dX11_laysFar_0 ic_0 ?_
  refine j_istore_n hK (L' := [(2, .int (0 : Int32)), (0, .ref 122), (1, .int p1)]) dX11_laysFar_1 rfl (by decide) rfl ?_
  refine j_sub [1, 2, 0] rfl ?_
  refine t_X11_laysFar_2 hK hA  (fun v24 S25 hf => ?_) _ _ _ hf
  refine j_iconst hK (0 : Int32) dX11_laysFar_34 ic_0 ?_
  refine j_istore_n hK (L' := [(2, .int (0 : Int32)), (0, .ref 122), (1, .int p1)]) dX11_laysFar_35 rfl (by decide) rfl ?_
  refine j_sub [1, 2, 0] rfl ?_
  refine t_X11_laysFar_36 hK hA  (fun v26 S27 hf => ?_) _ _ _ hf
  exact j_vret hK dX11_laysFar_178 rfl (rt_V hA hf)
