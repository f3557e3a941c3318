def f_X11_keeps_40b (e : Int32 × Int32 → St → Option (Int32 × St)) (k : Int32 × Int32 → St → Option (Int32 × St)) (v : Int32 × Int32) (S : St) : Option (Int32 × St) := (if (6 : Int32) ≤ v.2 then e (v.1, v.2) S else bd (f_X11_kept v.2 S) (fun r1 S2 => lt (v.1 + r1) (fun y4 => bd (f_X11_kept v.2 S2) (fun r5 S6 => bd (f_X11_enters r5.toInt64 S6) (fun r8 S9 => k (y4, (v.2 + (1 : Int32))) S9)))))
theorem t_X11_keeps_40 {K : CT} (hK : KO K cX11_keeps RX11 5 7 (some .int)) {r : Int32} {S' : St} (hA : zans K (some (.int r), S')) {e : Int32 × Int32 → St → Option (Int32 × St)} (he : ∀ (v : Int32 × Int32) (S : St), e v S = some (r, S') → J K 73 [(3, .int v.1)] [] S) : ∀ (n : Nat) (v : Int32 × Int32) (S : St), lp (f_X11_keeps_40b  e) n v S = some (r, S') → J K 40 [(0, .ref 122), (3, .int v.1), (4, .int v.2)] [] S :=
  lp_J (P := fun (v : Int32 × Int32) (S : St) => J K 40 [(0, .ref 122), (3, .int v.1), (4, .int v.2)] [] S) (fun k hk v S hf => by
    unfold f_X11_keeps_40b at hf
    refine j_iload hK dX11_keeps_40 2 rfl ?_
    refine j_bipush hK (6 : Int32) dX11_keeps_42 bi_6 ?_
    refine j_icmp_ge hK 73 dX11_keeps_44 (by decide) (fun hc => ?_) (fun hc => ?_)
    · replace hf := if_1 hc hf
      refine j_sub [1] rfl ?_
      exact he _ _ hf
    · replace hf := if_2 hc hf
      refine j_iload_n hK dX11_keeps_47 1 rfl rfl ?_
      refine j_aload_n hK dX11_keeps_48 0 rfl rfl ?_
      refine j_iload hK dX11_keeps_49 2 rfl ?_
      obtain ⟨r1, S2, h3, hf⟩ := bd_J hf
      refine k_callVi hK (c_X11_kept h3) dX11_keeps_51 zclX11 zo_122 ml_X11_387 mi_X11_kept mx_X11_kept in_X11 mc_X11_kept hy_X11_kept ⟨by decide, by decide⟩ rfl (Nat.le_of_ble_eq_true rfl) ?_
      refine j_iadd hK dX11_keeps_54 ?_
      refine lt_I hf (fun y4 hf => ?_)
      refine j_istore_n hK (L' := [(3, .int y4), (0, .ref 122), (4, .int v.2)]) dX11_keeps_55 rfl (by decide) rfl ?_
      refine j_aload_n hK dX11_keeps_56 1 rfl rfl ?_
      refine j_pc (pc' := 57) rfl ?_
      refine j_aload_n hK dX11_keeps_57 1 rfl rfl ?_
      refine j_iload hK dX11_keeps_58 2 rfl ?_
      obtain ⟨r5, S6, h7, hf⟩ := bd_J hf
      refine k_callVi hK (c_X11_kept h7) dX11_keeps_60 zclX11 zo_122 ml_X11_387 mi_X11_kept mx_X11_kept in_X11 mc_X11_kept hy_X11_kept ⟨by decide, by decide⟩ rfl (Nat.le_of_ble_eq_true rfl) ?_
      refine j_i2l hK dX11_keeps_63 ?_
      obtain ⟨r8, S9, h10, hf⟩ := bd_J hf
      refine k_callVv hK (c_X11_enters h10) dX11_keeps_64 zclX11 zo_122 ml_X11_340 mi_X11_enters mx_X11_enters in_X11 mc_X11_enters hy_X11_enters ⟨by decide, by decide⟩ rfl (Nat.le_of_ble_eq_true rfl) ?_
      refine j_iinc hK (L' := [(4, .int (v.2 + (1 : Int32))), (3, .int y4), (0, .ref 122)]) dX11_keeps_67 2 rfl (congrArg (fun y => v.2 + y) ic_1) (by decide) rfl ?_
      refine j_goto hK 40 dX11_keeps_70 (by decide) ?_
      refine j_sub [2, 1, 0] rfl ?_
      exact hk _ _ hf)
def f_X11_keeps (p1 : Int32) (p2 : Int32) (S : St) : Option (Int32 × St) := lt (sI S 122 0 (0 : Int32)) (fun S11 => bd (f_X11_isEcho 126 p1 p2 S11) (fun r12 S13 => (if r12 = 0 then some ((-1 : Int32), S13) else bd (f_X11_laysEcho 126 p1 p2 S13) (fun r15 S16 => lt (sI S16 122 1 (0 : Int32)) (fun S18 => lp (f_X11_keeps_40b  (fun v19 S20 => some (v19.1, S20))) FU ((0 : Int32), (0 : Int32)) S18)))))
theorem c_X11_keeps {p1 : Int32} {p2 : Int32} {S : St} {r : Int32} {S' : St} (hf : f_X11_keeps p1 p2 S = some (r, S')) : zM yX11_keeps cX11_keeps 5 7 (some .int) [.ref 122, .int p1, .int p2] S (some (.int r)) S' := by
  refine zM_of (zpl (by decide)) (Nat.le_of_ble_eq_true rfl) rfl (fun K hK hA => ?_)
  unfold f_X11_keeps at hf
  refine j_aload_n hK dX11_keeps_0 0 rfl rfl ?_
  refine j_iconst hK (0 : Int32) dX11_keeps_1 ic_0 ?_
  refine j_putI hK fl_X11_3 dX11_keeps_2 zo_122 zf_11_0 ?_
  refine lt_S hf (fun S11 hf => ?_)
  refine j_aload_n hK dX11_keeps_5 0 rfl rfl ?_
  refine j_aload_n hK dX11_keeps_6 0 rfl rfl ?_
  refine j_getR hK fl_X11_31 dX11_keeps_7 zo_122 zf_11_7 zr_122_7 ?_
  refine j_iload_n hK dX11_keeps_10 1 rfl rfl ?_
  refine j_iload_n hK dX11_keeps_11 2 rfl rfl ?_
  refine j_pc (pc' := 12) rfl ?_
  obtain ⟨r12, S13, h14, hf⟩ := bd_J hf
  refine k_callVi hK (c_X11_isEcho zb_126 h14) dX11_keeps_12 zclX11 zo_122 ml_X11_326 mi_X11_isEcho mx_X11_isEcho in_X11 mc_X11_isEcho hy_X11_isEcho ⟨by decide, by decide⟩ rfl (Nat.le_of_ble_eq_true rfl) ?_
  refine j_if_ne hK 20 dX11_keeps_15 (by decide) (fun hc => ?_) (fun hc => ?_)
  · replace hf := if_2 hc hf
    refine j_aload_n hK dX11_keeps_20 0 rfl rfl ?_
    refine j_aload_n hK dX11_keeps_21 0 rfl rfl ?_
    refine j_getR hK fl_X11_31 dX11_keeps_22 zo_122 zf_11_7 zr_122_7 ?_
    refine j_iload_n hK dX11_keeps_25 1 rfl rfl ?_
    refine j_iload_n hK dX11_keeps_26 2 rfl rfl ?_
    obtain ⟨r15, S16, h17, hf⟩ := bd_J hf
    refine k_callVv hK (c_X11_laysEcho zb_126 h17) dX11_keeps_27 zclX11 zo_122 ml_X11_336 mi_X11_laysEcho mx_X11_laysEcho in_X11 mc_X11_laysEcho hy_X11_laysEcho ⟨by decide, by decide⟩ rfl (Nat.le_of_ble_eq_true rfl) ?_
    refine j_iconst hK (0 : Int32) dX11_keeps_30 ic_0 ?_
    refine j_pc (pc' := 31) rfl ?_
    refine j_istore_n hK (L' := [(3, .int (0 : Int32)), (0, .ref 122), (1, .int p1), (2, .int p2)]) dX11_keeps_31 rfl (by decide) rfl ?_
    refine j_aload_n hK dX11_keeps_32 1 rfl rfl ?_
    refine j_iconst hK (0 : Int32) dX11_keeps_33 ic_0 ?_
    refine j_putI hK fl_X11_15 dX11_keeps_34 zo_122 zf_11_1 ?_
    refine lt_S hf (fun S18 hf => ?_)
    refine j_iconst hK (0 : Int32) dX11_keeps_37 ic_0 ?_
    refine j_istore hK (L' := [(4, .int (0 : Int32)), (3, .int (0 : Int32)), (0, .ref 122), (1, .int p1), (2, .int p2)]) dX11_keeps_38 (by decide) rfl ?_
    refine j_sub [2, 1, 0] rfl ?_
    refine t_X11_keeps_40 hK hA  (fun v19 S20 hf => ?_) _ _ _ hf
    refine j_iload_n hK dX11_keeps_73 0 rfl rfl ?_
    exact j_iret hK dX11_keeps_74 rfl (rt_I hA hf)
  · replace hf := if_1 hc hf
    refine j_iconst hK (-1 : Int32) dX11_keeps_18 ic_m1 ?_
    exact j_iret hK dX11_keeps_19 rfl (rt_I hA hf)
def f_X11_apart_128 (x3 : Int32) (x4 : Int32) (x5 : Int32) (x6 : Int32) (x8 : Int32) (x9 : Int32) (x10 : Int32) (s0 : Int32) (s1 : Int32) (k e : Int32 × Int32 × Int32 → St → Option (Int32 × St)) (S : St) : Option (Int32 × St) := bd (f_X11_flag s1 S) (fun r1 S2 => lt (s0 + r1) (fun y4 => if inb x10 8 then if inb x10 8 then lt (sI S2 144 x10.toNatClampNeg ((gI S2 144 x10.toNatClampNeg) + (1 : Int32))) (fun S7 => if inb x10 8 then lt (mxI x8 (gI S7 144 x10.toNatClampNeg)) (fun y9 => k (y4, y9, (x9 + (1 : Int32))) S7) else none) else none else none))
theorem t_X11_apart_128 {K : CT} (hK : KO K cX11_apart RX11 11 6 (some .int)) {r : Int32} {S' : St} (hA : zans K (some (.int r), S')) {x3 : Int32} {x4 : Int32} {x5 : Int32} {x6 : Int32} {x8 : Int32} {x9 : Int32} {x10 : Int32} {s0 : Int32} {s1 : Int32} {k e : Int32 × Int32 × Int32 → St → Option (Int32 × St)} (hk : ∀ (v : Int32 × Int32 × Int32) (S : St), k v S = some (r, S') → J K 90 [(0, .ref 122), (3, .int x3), (4, .int x4), (5, .int x5), (6, .int x6), (7, .int v.1), (8, .int v.2.1), (9, .int v.2.2)] [] S) (he : ∀ (v : Int32 × Int32 × Int32) (S : St), e v S = some (r, S') → J K 165 [(0, .ref 122), (3, .int x3), (4, .int x4), (5, .int x5), (6, .int x6), (7, .int v.1), (8, .int v.2.1)] [] S) {S : St} (hf : f_X11_apart_128 x3 x4 x5 x6 x8 x9 x10 s0 s1 k e S = some (r, S')) : J K 128 [(0, .ref 122), (3, .int x3), (4, .int x4), (5, .int x5), (6, .int x6), (8, .int x8), (9, .int x9), (10, .int x10)] [.int s1, .int s0] S := by
  unfold f_X11_apart_128 at hf
  obtain ⟨r1, S2, h3, hf⟩ := bd_J hf
  refine k_callSi hK (c_X11_flag h3) dX11_apart_128 ml_X11_155 ms_X11_flag in_X11 mc_X11_flag hy_X11_flag ⟨by decide, by decide⟩ rfl (Nat.le_of_ble_eq_true rfl) ?_
  refine j_iadd hK dX11_apart_131 ?_
  refine lt_I hf (fun y4 hf => ?_)
  refine j_istore hK (L' := [(7, .int y4), (0, .ref 122), (3, .int x3), (4, .int x4), (5, .int x5), (6, .int x6), (8, .int x8), (9, .int x9), (10, .int x10)]) dX11_apart_132 (by decide) rfl ?_
  refine j_aload_n hK dX11_apart_134 1 rfl rfl ?_
  refine j_getR hK fl_X11_86 dX11_apart_135 zo_122 zf_11_37 zr_122_37 ?_
  refine j_iload hK dX11_apart_138 8 rfl ?_
  refine j_dup2 hK dX11_apart_140 rfl rfl ?_
  obtain ⟨hi5, hf⟩ := gd hf
  refine k_iald hK dX11_apart_141 zb_144 hi5 rfl ?_
  refine j_pc (pc' := 142) rfl ?_
  refine j_iconst hK (1 : Int32) dX11_apart_142 ic_1 ?_
  refine j_iadd hK dX11_apart_143 ?_
  obtain ⟨hi6, hf⟩ := gd hf
  refine k_iast hK dX11_apart_144 zb_144 hi6 rfl ?_
  refine lt_S hf (fun S7 hf => ?_)
  refine j_iload hK dX11_apart_145 6 rfl ?_
  refine j_aload_n hK dX11_apart_147 1 rfl rfl ?_
  refine j_getR hK fl_X11_86 dX11_apart_148 zo_122 zf_11_37 zr_122_37 ?_
  refine j_iload hK dX11_apart_151 8 rfl ?_
  obtain ⟨hi8, hf⟩ := gd hf
  refine k_iald hK dX11_apart_153 zb_144 hi8 rfl ?_
  refine j_pc (pc' := 154) rfl ?_
  refine j_max hK ml_X11_297 dX11_apart_154 (by decide) (Nat.le_of_ble_eq_true rfl) ?_
  refine lt_I hf (fun y9 hf => ?_)
  refine j_istore hK (L' := [(8, .int y9), (7, .int y4), (0, .ref 122), (3, .int x3), (4, .int x4), (5, .int x5), (6, .int x6), (9, .int x9), (10, .int x10)]) dX11_apart_157 (by decide) rfl ?_
  refine j_iinc hK (L' := [(9, .int (x9 + (1 : Int32))), (8, .int y9), (7, .int y4), (0, .ref 122), (3, .int x3), (4, .int x4), (5, .int x5), (6, .int x6), (10, .int x10)]) dX11_apart_159 7 rfl (congrArg (fun y => x9 + y) ic_1) (by decide) rfl ?_
  refine j_goto hK 90 dX11_apart_162 (by decide) ?_
  refine j_sub [3, 4, 5, 6, 7, 2, 1, 0] rfl ?_
  exact hk _ _ hf
def f_X11_apart_90b (x3 : Int32) (x4 : Int32) (x5 : Int32) (x6 : Int32) (e : Int32 × Int32 × Int32 → St → Option (Int32 × St)) (k : Int32 × Int32 × Int32 → St → Option (Int32 × St)) (v : Int32 × Int32 × Int32) (S : St) : Option (Int32 × St) := (if (8 : Int32) ≤ v.2.2 then e (v.1, v.2.1, v.2.2) S else bd (f_X11_comesOut 126 v.2.2 x6 S) (fun r10 S11 => if inb r10 8 then (if (gI S11 144 r10.toNatClampNeg) = 0 then f_X11_apart_128 x3 x4 x5 x6 v.2.1 v.2.2 r10 v.1 (1 : Int32) k e S11 else f_X11_apart_128 x3 x4 x5 x6 v.2.1 v.2.2 r10 v.1 (0 : Int32) k e S11) else none))
theorem t_X11_apart_90 {K : CT} (hK : KO K cX11_apart RX11 11 6 (some .int)) {r : Int32} {S' : St} (hA : zans K (some (.int r), S')) {x3 : Int32} {x4 : Int32} {x5 : Int32} {x6 : Int32} {e : Int32 × Int32 × Int32 → St → Option (Int32 × St)} (he : ∀ (v : Int32 × Int32 × Int32) (S : St), e v S = some (r, S') → J K 165 [(0, .ref 122), (3, .int x3), (4, .int x4), (5, .int x5), (6, .int x6), (7, .int v.1), (8, .int v.2.1)] [] S) : ∀ (n : Nat) (v : Int32 × Int32 × Int32) (S : St), lp (f_X11_apart_90b x3 x4 x5 x6 e) n v S = some (r, S') → J K 90 [(0, .ref 122), (3, .int x3), (4, .int x4), (5, .int x5), (6, .int x6), (7, .int v.1), (8, .int v.2.1), (9, .int v.2.2)] [] S :=
  lp_J (P := fun (v : Int32 × Int32 × Int32) (S : St) => J K 90 [(0, .ref 122), (3, .int x3), (4, .int x4), (5, .int x5), (6, .int x6), (7, .int v.1), (8, .int v.2.1), (9, .int v.2.2)] [] S) (fun k hk v S hf => by
    unfold f_X11_apart_90b at hf
    refine j_iload hK dX11_apart_90 7 rfl ?_
    refine j_bipush hK (8 : Int32) dX11_apart_92 bi_8 ?_
    refine j_icmp_ge hK 165 dX11_apart_94 (by decide) (fun hc => ?_) (fun hc => ?_)
    · replace hf := if_1 hc hf
      refine j_sub [0, 1, 2, 3, 4, 5, 6] rfl ?_
      exact he _ _ hf
    · replace hf := if_2 hc hf
      refine j_aload_n hK dX11_apart_97 0 rfl rfl ?_
      refine j_aload_n hK dX11_apart_98 0 rfl rfl ?_
      refine j_getR hK fl_X11_31 dX11_apart_99 zo_122 zf_11_7 zr_122_7 ?_
      refine j_iload hK dX11_apart_102 7 rfl ?_
      refine j_iload hK dX11_apart_104 4 rfl ?_
      obtain ⟨r10, S11, h12, hf⟩ := bd_J hf
      refine k_callVi hK (c_X11_comesOut zb_126 h12) dX11_apart_106 zclX11 zo_122 ml_X11_344 mi_X11_comesOut mx_X11_comesOut in_X11 mc_X11_comesOut hy_X11_comesOut ⟨by decide, by decide⟩ rfl (Nat.le_of_ble_eq_true rfl) ?_
      refine j_istore hK (L' := [(10, .int r10), (0, .ref 122), (3, .int x3), (4, .int x4), (5, .int x5), (6, .int x6), (7, .int v.1), (8, .int v.2.1), (9, .int v.2.2)]) dX11_apart_109 (by decide) rfl ?_
      refine j_pc (pc' := 111) rfl ?_
      refine j_iload hK dX11_apart_111 6 rfl ?_
      refine j_aload_n hK dX11_apart_113 1 rfl rfl ?_
      refine j_getR hK fl_X11_86 dX11_apart_114 zo_122 zf_11_37 zr_122_37 ?_
      refine j_iload hK dX11_apart_117 0 rfl ?_
      obtain ⟨hi13, hf⟩ := gd hf
      refine k_iald hK dX11_apart_119 zb_144 hi13 rfl ?_
      refine j_if_ne hK 127 dX11_apart_120 (by decide) (fun hc => ?_) (fun hc => ?_)
      · replace hf := if_2 hc hf
        refine j_iconst hK (0 : Int32) dX11_apart_127 ic_0 ?_
        refine j_sub [1, 2, 3, 4, 5, 7, 8, 0] rfl ?_
        exact t_X11_apart_128 hK hA hk he hf
      · replace hf := if_1 hc hf
        refine j_iconst hK (1 : Int32) dX11_apart_123 ic_1 ?_
        refine j_goto hK 128 dX11_apart_124 (by decide) ?_
        refine j_sub [1, 2, 3, 4, 5, 7, 8, 0] rfl ?_
        exact t_X11_apart_128 hK hA hk he hf)
def f_X11_apart_66b (x3 : Int32) (x4 : Int32) (x5 : Int32) (x6 : Int32) (x7 : Int32) (x8 : Int32) (e : Int32 → St → Option (Int32 × St)) (k : Int32 → St → Option (Int32 × St)) (v : Int32) (S : St) : Option (Int32 × St) := (if (8 : Int32) ≤ v then e v S else if inb v 8 then lt (sI S 144 v.toNatClampNeg (0 : Int32)) (fun S15 => k (v + (1 : Int32)) S15) else none)
theorem t_X11_apart_66 {K : CT} (hK : KO K cX11_apart RX11 11 6 (some .int)) {r : Int32} {S' : St} (hA : zans K (some (.int r), S')) {x3 : Int32} {x4 : Int32} {x5 : Int32} {x6 : Int32} {x7 : Int32} {x8 : Int32} {e : Int32 → St → Option (Int32 × St)} (he : ∀ (v : Int32) (S : St), e v S = some (r, S') → J K 87 [(0, .ref 122), (3, .int x3), (4, .int x4), (5, .int x5), (6, .int x6), (7, .int x7), (8, .int x8)] [] S) : ∀ (n : Nat) (v : Int32) (S : St), lp (f_X11_apart_66b x3 x4 x5 x6 x7 x8 e) n v S = some (r, S') → J K 66 [(0, .ref 122), (3, .int x3), (4, .int x4), (5, .int x5), (6, .int x6), (7, .int x7), (8, .int x8), (9, .int v)] [] S :=
  lp_J (P := fun (v : Int32) (S : St) => J K 66 [(0, .ref 122), (3, .int x3), (4, .int x4), (5, .int x5), (6, .int x6), (7, .int x7), (8, .int x8), (9, .int v)] [] S) (fun k hk v S hf => by
    unfold f_X11_apart_66b at hf
    refine j_iload hK dX11_apart_66 7 rfl ?_
    refine j_bipush hK (8 : Int32) dX11_apart_68 bi_8 ?_
    refine j_icmp_ge hK 87 dX11_apart_70 (by decide) (fun hc => ?_) (fun hc => ?_)
    · replace hf := if_1 hc hf
      refine j_sub [0, 1, 2, 3, 4, 5, 6] rfl ?_
      exact he _ _ hf
    · replace hf := if_2 hc hf
      refine j_aload_n hK dX11_apart_73 0 rfl rfl ?_
      refine j_getR hK fl_X11_86 dX11_apart_74 zo_122 zf_11_37 zr_122_37 ?_
      refine j_iload hK dX11_apart_77 7 rfl ?_
      refine j_iconst hK (0 : Int32) dX11_apart_79 ic_0 ?_
      obtain ⟨hi14, hf⟩ := gd hf
      refine k_iast hK dX11_apart_80 zb_144 hi14 rfl ?_
      refine lt_S hf (fun S15 hf => ?_)
      refine j_iinc hK (L' := [(9, .int (v + (1 : Int32))), (0, .ref 122), (3, .int x3), (4, .int x4), (5, .int x5), (6, .int x6), (7, .int x7), (8, .int x8)]) dX11_apart_81 7 rfl (congrArg (fun y => v + y) ic_1) (by decide) rfl ?_
      refine j_goto hK 66 dX11_apart_84 (by decide) ?_
      refine j_sub [1, 2, 3, 4, 5, 6, 7, 0] rfl ?_
      exact hk _ _ hf)
def f_X11_apart_51b (x3 : Int32) (e : Int32 × Int32 × Int32 → St → Option (Int32 × St)) (k : Int32 × Int32 × Int32 → St → Option (Int32 × St)) (v : Int32 × Int32 × Int32) (S : St) : Option (Int32 × St) := (if x3 ≤ v.2.2 then e (v.1, v.2.1, v.2.2) S else lp (f_X11_apart_66b x3 v.1 v.2.1 v.2.2 (0 : Int32) (0 : Int32) (fun v16 S17 => lp (f_X11_apart_90b x3 v.1 v.2.1 v.2.2 (fun v18 S19 => lt (v.1 * v18.1) (fun y20 => lt (v.2.1 * v18.2.1) (fun y21 => k (y20, y21, (v.2.2 + (1 : Int32))) S19)))) FU ((0 : Int32), (0 : Int32), (0 : Int32)) S17)) FU (0 : Int32) S)
theorem t_X11_apart_51 {K : CT} (hK : KO K cX11_apart RX11 11 6 (some .int)) {r : Int32} {S' : St} (hA : zans K (some (.int r), S')) {x3 : Int32} {e : Int32 × Int32 × Int32 → St → Option (Int32 × St)} (he : ∀ (v : Int32 × Int32 × Int32) (S : St), e v S = some (r, S') → J K 185 [(0, .ref 122), (4, .int v.1), (5, .int v.2.1)] [] S) : ∀ (n : Nat) (v : Int32 × Int32 × Int32) (S : St), lp (f_X11_apart_51b x3 e) n v S = some (r, S') → J K 51 [(0, .ref 122), (3, .int x3), (4, .int v.1), (5, .int v.2.1), (6, .int v.2.2)] [] S :=
  lp_J (P := fun (v : Int32 × Int32 × Int32) (S : St) => J K 51 [(0, .ref 122), (3, .int x3), (4, .int v.1), (5, .int v.2.1), (6, .int v.2.2)] [] S) (fun k hk v S hf => by
    unfold f_X11_apart_51b at hf
    refine j_iload hK dX11_apart_51 4 rfl ?_
    refine j_iload_n hK dX11_apart_53 1 rfl rfl ?_
    refine j_icmp_ge hK 185 dX11_apart_54 (by decide) (fun hc => ?_) (fun hc => ?_)
    · replace hf := if_1 hc hf
      refine j_sub [0, 2, 3] rfl ?_
      exact he _ _ hf
    · replace hf := if_2 hc hf
      refine j_iconst hK (0 : Int32) dX11_apart_57 ic_0 ?_
      refine j_istore hK (L' := [(7, .int (0 : Int32)), (0, .ref 122), (3, .int x3), (4, .int v.1), (5, .int v.2.1), (6, .int v.2.2)]) dX11_apart_58 (by decide) rfl ?_
      refine j_iconst hK (0 : Int32) dX11_apart_60 ic_0 ?_
      refine j_istore hK (L' := [(8, .int (0 : Int32)), (7, .int (0 : Int32)), (0, .ref 122), (3, .int x3), (4, .int v.1), (5, .int v.2.1), (6, .int v.2.2)]) dX11_apart_61 (by decide) rfl ?_
      refine j_iconst hK (0 : Int32) dX11_apart_63 ic_0 ?_
      refine j_istore hK (L' := [(9, .int (0 : Int32)), (8, .int (0 : Int32)), (7, .int (0 : Int32)), (0, .ref 122), (3, .int x3), (4, .int v.1), (5, .int v.2.1), (6, .int v.2.2)]) dX11_apart_64 (by decide) rfl ?_
      refine j_sub [3, 4, 5, 6, 7, 2, 1, 0] rfl ?_
      refine t_X11_apart_66 hK hA  (fun v16 S17 hf => ?_) _ _ _ hf
      refine j_iconst hK (0 : Int32) dX11_apart_87 ic_0 ?_
      refine j_istore hK (L' := [(9, .int (0 : Int32)), (0, .ref 122), (3, .int x3), (4, .int v.1), (5, .int v.2.1), (6, .int v.2.2), (7, .int (0 : Int32)), (8, .int (0 : Int32))]) dX11_apart_88 (by decide) rfl ?_
      refine j_sub [1, 2, 3, 4, 5, 6, 7, 0] rfl ?_
      refine t_X11_apart_90 hK hA  (fun v18 S19 hf => ?_) _ _ _ hf
      refine j_iload hK dX11_apart_165 2 rfl ?_
      refine j_iload hK dX11_apart_167 5 rfl ?_
      refine j_imul hK dX11_apart_169 ?_
      refine lt_I hf (fun y20 hf => ?_)
      refine j_istore hK (L' := [(4, .int y20), (0, .ref 122), (3, .int x3), (5, .int v.2.1), (6, .int v.2.2), (7, .int v18.1), (8, .int v18.2.1)]) dX11_apart_170 (by decide) rfl ?_
      refine j_iload hK dX11_apart_172 3 rfl ?_
      refine j_iload hK dX11_apart_174 6 rfl ?_
      refine j_imul hK dX11_apart_176 ?_
      refine j_pc (pc' := 177) rfl ?_
      refine lt_I hf (fun y21 hf => ?_)
      refine j_istore hK (L' := [(5, .int y21), (4, .int y20), (0, .ref 122), (3, .int x3), (6, .int v.2.2), (7, .int v18.1), (8, .int v18.2.1)]) dX11_apart_177 (by decide) rfl ?_
      refine j_iinc hK (L' := [(6, .int (v.2.2 + (1 : Int32))), (5, .int y21), (4, .int y20), (0, .ref 122), (3, .int x3), (7, .int v18.1), (8, .int v18.2.1)]) dX11_apart_179 4 rfl (congrArg (fun y => v.2.2 + y) ic_1) (by decide) rfl ?_
      refine j_goto hK 51 dX11_apart_182 (by decide) ?_
      refine j_sub [3, 4, 2, 1, 0] rfl ?_
      exact hk _ _ hf)
def f_X11_apart (p1 : Int32) (p2 : Int32) (p3 : Int32) (S : St) : Option (Int32 × St) := lt (sI S 122 0 (0 : Int32)) (fun S22 => bd (f_X11_isEcho 126 p1 p2 S22) (fun r23 S24 => (if r23 = 0 then some ((-1 : Int32), S24) else bd (f_X11_in p3.toInt64 (1 : Int64) (6 : Int64) S24) (fun r26 S27 => (if r26 = 0 then some ((-1 : Int32), S27) else bd (f_X11_laysEcho 126 p1 p2 S27) (fun r29 S30 => lp (f_X11_apart_51b p3 (fun v32 S33 => lt (sI S33 122 1 (0 : Int32)) (fun S34 => bd (f_X11_enters v32.2.1.toInt64 S34) (fun r35 S36 => some (v32.1, S36))))) FU ((1 : Int32), (1 : Int32), (0 : Int32)) S30))))))
theorem c_X11_apart {p1 : Int32} {p2 : Int32} {p3 : Int32} {S : St} {r : Int32} {S' : St} (hf : f_X11_apart p1 p2 p3 S = some (r, S')) : zM yX11_apart cX11_apart 11 6 (some .int) [.ref 122, .int p1, .int p2, .int p3] S (some (.int r)) S' := by
  refine zM_of (zpl (by decide)) (Nat.le_of_ble_eq_true rfl) rfl (fun K hK hA => ?_)
  unfold f_X11_apart at hf
  refine j_aload_n hK dX11_apart_0 0 rfl rfl ?_
  refine j_iconst hK (0 : Int32) dX11_apart_1 ic_0 ?_
  refine j_putI hK fl_X11_3 dX11_apart_2 zo_122 zf_11_0 ?_
  refine lt_S hf (fun S22 hf => ?_)
  refine j_aload_n hK dX11_apart_5 0 rfl rfl ?_
  refine j_aload_n hK dX11_apart_6 0 rfl rfl ?_
  refine j_getR hK fl_X11_31 dX11_apart_7 zo_122 zf_11_7 zr_122_7 ?_
  refine j_iload_n hK dX11_apart_10 1 rfl rfl ?_
  refine j_iload_n hK dX11_apart_11 2 rfl rfl ?_
  refine j_pc (pc' := 12) rfl ?_
  obtain ⟨r23, S24, h25, hf⟩ := bd_J hf
  refine k_callVi hK (c_X11_isEcho zb_126 h25) dX11_apart_12 zclX11 zo_122 ml_X11_326 mi_X11_isEcho mx_X11_isEcho in_X11 mc_X11_isEcho hy_X11_isEcho ⟨by decide, by decide⟩ rfl (Nat.le_of_ble_eq_true rfl) ?_
  refine j_if_eq hK 30 dX11_apart_15 (by decide) (fun hc => ?_) (fun hc => ?_)
  · replace hf := if_1 hc hf
    refine j_iconst hK (-1 : Int32) dX11_apart_30 ic_m1 ?_
    exact j_iret hK dX11_apart_31 rfl (rt_I hA hf)
  · replace hf := if_2 hc hf
    refine j_iload_n hK dX11_apart_18 3 rfl rfl ?_
    refine j_i2l hK dX11_apart_19 ?_
    refine j_lconst hK (1 : Int64) dX11_apart_20 lc_1 ?_
    refine j_ldc2 hK (v := (6 : Int64)) cl_X11_390 dX11_apart_21 ?_
    obtain ⟨r26, S27, h28, hf⟩ := bd_J hf
    refine k_callSi hK (c_X11_in h28) dX11_apart_24 ml_X11_131 ms_X11_in in_X11 mc_X11_in hy_X11_in ⟨by decide, by decide⟩ rfl (Nat.le_of_ble_eq_true rfl) ?_
    refine j_if_ne hK 32 dX11_apart_27 (by decide) (fun hc => ?_) (fun hc => ?_)
    · replace hf := if_2 hc hf
      refine j_aload_n hK dX11_apart_32 0 rfl rfl ?_
      refine j_aload_n hK dX11_apart_33 0 rfl rfl ?_
      refine j_getR hK fl_X11_31 dX11_apart_34 zo_122 zf_11_7 zr_122_7 ?_
      refine j_iload_n hK dX11_apart_37 1 rfl rfl ?_
      refine j_iload_n hK dX11_apart_38 2 rfl rfl ?_
      obtain ⟨r29, S30, h31, hf⟩ := bd_J hf
      refine k_callVv hK (c_X11_laysEcho zb_126 h31) dX11_apart_39 zclX11 zo_122 ml_X11_336 mi_X11_laysEcho mx_X11_laysEcho in_X11 mc_X11_laysEcho hy_X11_laysEcho ⟨by decide, by decide⟩ rfl (Nat.le_of_ble_eq_true rfl) ?_
      refine j_iconst hK (1 : Int32) dX11_apart_42 ic_1 ?_
      refine j_pc (pc' := 43) rfl ?_
      refine j_istore hK (L' := [(4, .int (1 : Int32)), (0, .ref 122), (1, .int p1), (2, .int p2), (3, .int p3)]) dX11_apart_43 (by decide) rfl ?_
      refine j_iconst hK (1 : Int32) dX11_apart_45 ic_1 ?_
      refine j_istore hK (L' := [(5, .int (1 : Int32)), (4, .int (1 : Int32)), (0, .ref 122), (1, .int p1), (2, .int p2), (3, .int p3)]) dX11_apart_46 (by decide) rfl ?_
      refine j_iconst hK (0 : Int32) dX11_apart_48 ic_0 ?_
      refine j_istore hK (L' := [(6, .int (0 : Int32)), (5, .int (1 : Int32)), (4, .int (1 : Int32)), (0, .ref 122), (1, .int p1), (2, .int p2), (3, .int p3)]) dX11_apart_49 (by decide) rfl ?_
      refine j_sub [3, 6, 2, 1, 0] rfl ?_
      refine t_X11_apart_51 hK hA  (fun v32 S33 hf => ?_) _ _ _ hf
      refine j_aload_n hK dX11_apart_185 0 rfl rfl ?_
      refine j_iconst hK (0 : Int32) dX11_apart_186 ic_0 ?_
      refine j_putI hK fl_X11_15 dX11_apart_187 zo_122 zf_11_1 ?_
      refine lt_S hf (fun S34 hf => ?_)
      refine j_aload_n hK dX11_apart_190 0 rfl rfl ?_
      refine j_iload hK dX11_apart_191 2 rfl ?_
      refine j_i2l hK dX11_apart_193 ?_
      obtain ⟨r35, S36, h37, hf⟩ := bd_J hf
      refine k_callVv hK (c_X11_enters h37) dX11_apart_194 zclX11 zo_122 ml_X11_340 mi_X11_enters mx_X11_enters in_X11 mc_X11_enters hy_X11_enters ⟨by decide, by decide⟩ rfl (Nat.le_of_ble_eq_true rfl) ?_
      refine j_pc (pc' := 197) rfl ?_
      refine j_iload hK dX11_apart_197 1 rfl ?_
      exact j_iret hK dX11_apart_199 rfl (rt_I hA hf)
    · replace hf := if_1 hc hf
      refine j_iconst hK (-1 : Int32) dX11_apart_30 ic_m1 ?_
      exact j_iret hK dX11_apart_31 rfl (rt_I hA hf)
def f_X11_longest_95 (x1 : Int32) (x2 : Int32) (x3 : Int32) (x4 : Int32) (k e : Int32 × Int32 × Int32 → St → Option (Int32 × St)) (S : St) : Option (Int32 × St) := k (x2, x3, (x4 + (1 : Int32))) S
theorem t_X11_longest_95 {K : CT} (hK : KO K cX11_longest RX11 5 4 (some .int)) {r : Int32} {S' : St} (hA : zans K (some (.int r), S')) {x1 : Int32} {x2 : Int32} {x3 : Int32} {x4 : Int32} {k e : Int32 × Int32 × Int32 → St → Option (Int32 × St)} (hk : ∀ (v : Int32 × Int32 × Int32) (S : St), k v S = some (r, S') → J K 22 [(0, .ref 122), (1, .int x1), (2, .int v.1), (3, .int v.2.1), (4, .int v.2.2)] [] S) (he : ∀ (v : Int32 × Int32 × Int32) (S : St), e v S = some (r, S') → J K 101 [(2, .int v.1)] [] S) {S : St} (hf : f_X11_longest_95 x1 x2 x3 x4 k e S = some (r, S')) : J K 95 [(0, .ref 122), (1, .int x1), (2, .int x2), (3, .int x3), (4, .int x4)] [] S := by
  unfold f_X11_longest_95 at hf
  refine j_iinc hK (L' := [(4, .int (x4 + (1 : Int32))), (0, .ref 122), (1, .int x1), (2, .int x2), (3, .int x3)]) dX11_longest_95 4 rfl (congrArg (fun y => x4 + y) ic_1) (by decide) rfl ?_
  refine j_goto hK 22 dX11_longest_98 (by decide) ?_
  refine j_sub [1, 2, 3, 4, 0] rfl ?_
  exact hk _ _ hf
def f_X11_longest_22b (x1 : Int32) (e : Int32 × Int32 × Int32 → St → Option (Int32 × St)) (k : Int32 × Int32 × Int32 → St → Option (Int32 × St)) (v : Int32 × Int32 × Int32) (S : St) : Option (Int32 × St) := (if (gI S 122 3) ≤ v.2.2 then e (v.1, v.2.1, v.2.2) S else bd (f_X11_isEcho 126 x1 v.2.2 S) (fun r1 S2 => (if r1 = 0 then f_X11_longest_95 x1 v.1 v.2.1 v.2.2 k e S2 else bd (f_X11_laysEcho 126 x1 v.2.2 S2) (fun r4 S5 => (if (gI S5 122 26) ≤ v.2.1 then f_X11_longest_95 x1 v.1 v.2.1 v.2.2 k e S5 else lt (gI S5 122 26) (fun y7 => lt (sI S5 122 1 (0 : Int32)) (fun S8 => bd (f_X11_enters (gI S8 122 26).toInt64 S8) (fun r9 S10 => bd (f_X11_enters (gI S10 122 25).toInt64 S10) (fun r12 S13 => f_X11_longest_95 x1 v.2.2 y7 v.2.2 k e S13)))))))))
theorem t_X11_longest_22 {K : CT} (hK : KO K cX11_longest RX11 5 4 (some .int)) {r : Int32} {S' : St} (hA : zans K (some (.int r), S')) {x1 : Int32} {e : Int32 × Int32 × Int32 → St → Option (Int32 × St)} (he : ∀ (v : Int32 × Int32 × Int32) (S : St), e v S = some (r, S') → J K 101 [(2, .int v.1)] [] S) : ∀ (n : Nat) (v : Int32 × Int32 × Int32) (S : St), lp (f_X11_longest_22b x1 e) n v S = some (r, S') → J K 22 [(0, .ref 122), (1, .int x1), (2, .int v.1), (3, .int v.2.1), (4, .int v.2.2)] [] S :=
  lp_J (P := fun (v : Int32 × Int32 × Int32) (S : St) => J K 22 [(0, .ref 122), (1, .int x1), (2, .int v.1), (3, .int v.2.1), (4, .int v.2.2)] [] S) (fun k hk v S hf => by
    unfold f_X11_longest_22b at hf
    refine j_iload hK dX11_longest_22 4 rfl ?_
    refine j_aload_n hK dX11_longest_24 0 rfl rfl ?_
    refine j_getI hK fl_X11_128 dX11_longest_25 zo_122 zf_11_3 ?_
    refine j_icmp_ge hK 101 dX11_longest_28 (by decide) (fun hc => ?_) (fun hc => ?_)
    · replace hf := if_1 hc hf
      refine j_sub [2] rfl ?_
      exact he _ _ hf
    · replace hf := if_2 hc hf
      refine j_aload_n hK dX11_longest_31 0 rfl rfl ?_
      refine j_aload_n hK dX11_longest_32 0 rfl rfl ?_
      refine j_getR hK fl_X11_31 dX11_longest_33 zo_122 zf_11_7 zr_122_7 ?_
      refine j_iload_n hK dX11_longest_36 1 rfl rfl ?_
      refine j_iload hK dX11_longest_37 4 rfl ?_
      obtain ⟨r1, S2, h3, hf⟩ := bd_J hf
      refine k_callVi hK (c_X11_isEcho zb_126 h3) dX11_longest_39 zclX11 zo_122 ml_X11_326 mi_X11_isEcho mx_X11_isEcho in_X11 mc_X11_isEcho hy_X11_isEcho ⟨by decide, by decide⟩ rfl (Nat.le_of_ble_eq_true rfl) ?_
      refine j_if_eq hK 95 dX11_longest_42 (by decide) (fun hc => ?_) (fun hc => ?_)
      · replace hf := if_1 hc hf
        exact t_X11_longest_95 hK hA hk he hf
      · replace hf := if_2 hc hf
        refine j_aload_n hK dX11_longest_45 0 rfl rfl ?_
        refine j_aload_n hK dX11_longest_46 0 rfl rfl ?_
        refine j_getR hK fl_X11_31 dX11_longest_47 zo_122 zf_11_7 zr_122_7 ?_
        refine j_iload_n hK dX11_longest_50 1 rfl rfl ?_
        refine j_iload hK dX11_longest_51 4 rfl ?_
        obtain ⟨r4, S5, h6, hf⟩ := bd_J hf
        refine k_callVv hK (c_X11_laysEcho zb_126 h6) dX11_longest_53 zclX11 zo_122 ml_X11_336 mi_X11_laysEcho mx_X11_laysEcho in_X11 mc_X11_laysEcho hy_X11_laysEcho ⟨by decide, by decide⟩ rfl (Nat.le_of_ble_eq_true rfl) ?_
        refine j_aload_n hK dX11_longest_56 0 rfl rfl ?_
        refine j_pc (pc' := 57) rfl ?_
        refine j_getI hK fl_X11_275 dX11_longest_57 zo_122 zf_11_26 ?_
        refine j_iload_n hK dX11_longest_60 3 rfl rfl ?_
        refine j_icmp_le hK 95 dX11_longest_61 (by decide) (fun hc => ?_) (fun hc => ?_)
        · replace hf := if_1 hc hf
          exact t_X11_longest_95 hK hA hk he hf
        · replace hf := if_2 hc hf
          refine j_iload hK dX11_longest_64 4 rfl ?_
          refine j_istore_n hK (L' := [(2, .int v.2.2), (0, .ref 122), (1, .int x1), (3, .int v.2.1), (4, .int v.2.2)]) dX11_longest_66 rfl (by decide) rfl ?_
          refine j_aload_n hK dX11_longest_67 1 rfl rfl ?_
          refine j_getI hK fl_X11_275 dX11_longest_68 zo_122 zf_11_26 ?_
          refine lt_I hf (fun y7 hf => ?_)
          refine j_istore_n hK (L' := [(3, .int y7), (2, .int v.2.2), (0, .ref 122), (1, .int x1), (4, .int v.2.2)]) dX11_longest_71 rfl (by decide) rfl ?_
          refine j_aload_n hK dX11_longest_72 2 rfl rfl ?_
          refine j_iconst hK (0 : Int32) dX11_longest_73 ic_0 ?_
          refine j_pc (pc' := 74) rfl ?_
          refine j_putI hK fl_X11_15 dX11_longest_74 zo_122 zf_11_1 ?_
          refine lt_S hf (fun S8 hf => ?_)
          refine j_aload_n hK dX11_longest_77 2 rfl rfl ?_
          refine j_aload_n hK dX11_longest_78 2 rfl rfl ?_
          refine j_getI hK fl_X11_275 dX11_longest_79 zo_122 zf_11_26 ?_
          refine j_i2l hK dX11_longest_82 ?_
          obtain ⟨r9, S10, h11, hf⟩ := bd_J hf
          refine k_callVv hK (c_X11_enters h11) dX11_longest_83 zclX11 zo_122 ml_X11_340 mi_X11_enters mx_X11_enters in_X11 mc_X11_enters hy_X11_enters ⟨by decide, by decide⟩ rfl (Nat.le_of_ble_eq_true rfl) ?_
          refine j_aload_n hK dX11_longest_86 2 rfl rfl ?_
          refine j_aload_n hK dX11_longest_87 2 rfl rfl ?_
          refine j_pc (pc' := 88) rfl ?_
          refine j_getI hK fl_X11_272 dX11_longest_88 zo_122 zf_11_25 ?_
          refine j_i2l hK dX11_longest_91 ?_
          obtain ⟨r12, S13, h14, hf⟩ := bd_J hf
          refine k_callVv hK (c_X11_enters h14) dX11_longest_92 zclX11 zo_122 ml_X11_340 mi_X11_enters mx_X11_enters in_X11 mc_X11_enters hy_X11_enters ⟨by decide, by decide⟩ rfl (Nat.le_of_ble_eq_true rfl) ?_
          refine j_sub [2, 3, 1, 0, 4] rfl ?_
          exact t_X11_longest_95 hK hA hk he hf)
def f_X11_longest (p1 : Int32) (S : St) : Option (Int32 × St) := lt (sI S 122 0 (0 : Int32)) (fun S15 => bd (f_X11_isCavern p1 S15) (fun r16 S17 => (if r16 = 0 then some ((-1 : Int32), S17) else lp (f_X11_longest_22b p1 (fun v19 S20 => some (v19.1, S20))) FU ((-2 : Int32), (0 : Int32), (0 : Int32)) S17)))
theorem c_X11_longest {p1 : Int32} {S : St} {r : Int32} {S' : St} (hf : f_X11_longest p1 S = some (r, S')) : zM yX11_longest cX11_longest 5 4 (some .int) [.ref 122, .int p1] S (some (.int r)) S' := by
  refine zM_of (zpl (by decide)) (Nat.le_of_ble_eq_true rfl) rfl (fun K hK hA => ?_)
  unfold f_X11_longest at hf
  refine j_aload_n hK dX11_longest_0 0 rfl rfl ?_
  refine j_iconst hK (0 : Int32) dX11_longest_1 ic_0 ?_
  refine j_putI hK fl_X11_3 dX11_longest_2 zo_122 zf_11_0 ?_
  refine lt_S hf (fun S15 hf => ?_)
  refine j_iload_n hK dX11_longest_5 1 rfl rfl ?_
  obtain ⟨r16, S17, h18, hf⟩ := bd_J hf
  refine k_callSi hK (c_X11_isCavern h18) dX11_longest_6 ml_X11_256 ms_X11_isCavern in_X11 mc_X11_isCavern hy_X11_isCavern ⟨by decide, by decide⟩ rfl (Nat.le_of_ble_eq_true rfl) ?_
  refine j_if_ne hK 14 dX11_longest_9 (by decide) (fun hc => ?_) (fun hc => ?_)
  · replace hf := if_2 hc hf
    refine j_bipush hK (-2 : Int32) dX11_longest_14 bi_m2 ?_
    refine j_istore_n hK (L' := [(2, .int (-2 : Int32)), (0, .ref 122), (1, .int p1)]) dX11_longest_16 rfl (by decide) rfl ?_
    refine j_iconst hK (0 : Int32) dX11_longest_17 ic_0 ?_
    refine j_istore_n hK (L' := [(3, .int (0 : Int32)), (2, .int (-2 : Int32)), (0, .ref 122), (1, .int p1)]) dX11_longest_18 rfl (by decide) rfl ?_
    refine j_iconst hK (0 : Int32) dX11_longest_19 ic_0 ?_
    refine j_istore hK (L' := [(4, .int (0 : Int32)), (3, .int (0 : Int32)), (2, .int (-2 : Int32)), (0, .ref 122), (1, .int p1)]) dX11_longest_20 (by decide) rfl ?_
    refine j_sub [3, 4, 2, 1, 0] rfl ?_
    refine t_X11_longest_22 hK hA  (fun v19 S20 hf => ?_) _ _ _ hf
    refine j_iload_n hK dX11_longest_101 0 rfl rfl ?_
    exact j_iret hK dX11_longest_102 rfl (rt_I hA hf)
  · replace hf := if_1 hc hf
    refine j_iconst hK (-1 : Int32) dX11_longest_12 ic_m1 ?_
    exact j_iret hK dX11_longest_13 rfl (rt_I hA hf)
def f_X11_rounds_103 (x1 : Int32) (x2 : Int32) (x3 : Int32) (x4 : Int32) (x5 : Int32) (k e : Int32 × Int32 × Int32 × Int32 → St → Option (Int32 × St)) (S : St) : Option (Int32 × St) := k (x1, x2, x3, (x5 + (1 : Int32))) S
theorem t_X11_rounds_103 {K : CT} (hK : KO K cX11_rounds RX11 6 4 (some .int)) {r : Int32} {S' : St} (hA : zans K (some (.int r), S')) {x1 : Int32} {x2 : Int32} {x3 : Int32} {x4 : Int32} {x5 : Int32} {k e : Int32 × Int32 × Int32 × Int32 → St → Option (Int32 × St)} (hk : ∀ (v : Int32 × Int32 × Int32 × Int32) (S : St), k v S = some (r, S') → J K 24 [(0, .ref 122), (1, .int v.1), (2, .int v.2.1), (3, .int v.2.2.1), (4, .int x4), (5, .int v.2.2.2)] [] S) (he : ∀ (v : Int32 × Int32 × Int32 × Int32) (S : St), e v S = some (r, S') → J K 109 [(0, .ref 122), (1, .int v.1), (2, .int v.2.1), (3, .int v.2.2.1), (4, .int x4)] [] S) {S : St} (hf : f_X11_rounds_103 x1 x2 x3 x4 x5 k e S = some (r, S')) : J K 103 [(0, .ref 122), (1, .int x1), (2, .int x2), (3, .int x3), (4, .int x4), (5, .int x5)] [] S := by
  unfold f_X11_rounds_103 at hf
  refine j_iinc hK (L' := [(5, .int (x5 + (1 : Int32))), (0, .ref 122), (1, .int x1), (2, .int x2), (3, .int x3), (4, .int x4)]) dX11_rounds_103 5 rfl (congrArg (fun y => x5 + y) ic_1) (by decide) rfl ?_
  refine j_goto hK 24 dX11_rounds_106 (by decide) ?_
  refine j_sub [1, 2, 3, 4, 5, 0] rfl ?_
  exact hk _ _ hf
def f_X11_rounds_101 (x2 : Int32) (x3 : Int32) (x4 : Int32) (x5 : Int32) (s0 : Int32) (s1 : Int32) (k e : Int32 × Int32 × Int32 × Int32 → St → Option (Int32 × St)) (S : St) : Option (Int32 × St) := lt (s0 ||| s1) (fun y1 => f_X11_rounds_103 y1 x2 x3 x4 x5 k e S)
theorem t_X11_rounds_101 {K : CT} (hK : KO K cX11_rounds RX11 6 4 (some .int)) {r : Int32} {S' : St} (hA : zans K (some (.int r), S')) {x2 : Int32} {x3 : Int32} {x4 : Int32} {x5 : Int32} {s0 : Int32} {s1 : Int32} {k e : Int32 × Int32 × Int32 × Int32 → St → Option (Int32 × St)} (hk : ∀ (v : Int32 × Int32 × Int32 × Int32) (S : St), k v S = some (r, S') → J K 24 [(0, .ref 122), (1, .int v.1), (2, .int v.2.1), (3, .int v.2.2.1), (4, .int x4), (5, .int v.2.2.2)] [] S) (he : ∀ (v : Int32 × Int32 × Int32 × Int32) (S : St), e v S = some (r, S') → J K 109 [(0, .ref 122), (1, .int v.1), (2, .int v.2.1), (3, .int v.2.2.1), (4, .int x4)] [] S) {S : St} (hf : f_X11_rounds_101 x2 x3 x4 x5 s0 s1 k e S = some (r, S')) : J K 101 [(0, .ref 122), (2, .int x2), (3, .int x3), (4, .int x4), (5, .int x5)] [.int s1, .int s0] S := by
  unfold f_X11_rounds_101 at hf
  refine j_ior hK dX11_rounds_101 ?_
  refine lt_I hf (fun y1 hf => ?_)
  refine j_istore_n hK (L' := [(1, .int y1), (0, .ref 122), (2, .int x2), (3, .int x3), (4, .int x4), (5, .int x5)]) dX11_rounds_102 rfl (by decide) rfl ?_
  refine j_sub [1, 0, 2, 3, 4, 5] rfl ?_
  exact t_X11_rounds_103 hK hA hk he hf
def f_X11_rounds_78 (x1 : Int32) (x2 : Int32) (x4 : Int32) (x5 : Int32) (s0 : Int32) (s1 : Int32) (k e : Int32 × Int32 × Int32 × Int32 → St → Option (Int32 × St)) (S : St) : Option (Int32 × St) := bd (f_X11_flag s1 S) (fun r2 S3 => lt (s0 + r2) (fun y5 => (if (gI S3 122 25) = x4 then f_X11_rounds_101 x2 y5 x4 x5 x1 ((1 : Int32) <<< (x4 &&& 31)) k e S3 else f_X11_rounds_101 x2 y5 x4 x5 x1 (0 : Int32) k e S3)))
theorem t_X11_rounds_78 {K : CT} (hK : KO K cX11_rounds RX11 6 4 (some .int)) {r : Int32} {S' : St} (hA : zans K (some (.int r), S')) {x1 : Int32} {x2 : Int32} {x4 : Int32} {x5 : Int32} {s0 : Int32} {s1 : Int32} {k e : Int32 × Int32 × Int32 × Int32 → St → Option (Int32 × St)} (hk : ∀ (v : Int32 × Int32 × Int32 × Int32) (S : St), k v S = some (r, S') → J K 24 [(0, .ref 122), (1, .int v.1), (2, .int v.2.1), (3, .int v.2.2.1), (4, .int x4), (5, .int v.2.2.2)] [] S) (he : ∀ (v : Int32 × Int32 × Int32 × Int32) (S : St), e v S = some (r, S') → J K 109 [(0, .ref 122), (1, .int v.1), (2, .int v.2.1), (3, .int v.2.2.1), (4, .int x4)] [] S) {S : St} (hf : f_X11_rounds_78 x1 x2 x4 x5 s0 s1 k e S = some (r, S')) : J K 78 [(0, .ref 122), (1, .int x1), (2, .int x2), (4, .int x4), (5, .int x5)] [.int s1, .int s0] S := by
  unfold f_X11_rounds_78 at hf
  obtain ⟨r2, S3, h4, hf⟩ := bd_J hf
  refine k_callSi hK (c_X11_flag h4) dX11_rounds_78 ml_X11_155 ms_X11_flag in_X11 mc_X11_flag hy_X11_flag ⟨by decide, by decide⟩ rfl (Nat.le_of_ble_eq_true rfl) ?_
  refine j_iadd hK dX11_rounds_81 ?_
  refine lt_I hf (fun y5 hf => ?_)
  refine j_istore_n hK (L' := [(3, .int y5), (0, .ref 122), (1, .int x1), (2, .int x2), (4, .int x4), (5, .int x5)]) dX11_rounds_82 rfl (by decide) rfl ?_
  refine j_iload_n hK dX11_rounds_83 2 rfl rfl ?_
  refine j_aload_n hK dX11_rounds_84 1 rfl rfl ?_
  refine j_getI hK fl_X11_272 dX11_rounds_85 zo_122 zf_11_25 ?_
  refine j_iload hK dX11_rounds_88 4 rfl ?_
  refine j_icmp_ne hK 100 dX11_rounds_90 (by decide) (fun hc => ?_) (fun hc => ?_)
  · replace hf := if_2 hc hf
    refine j_iconst hK (0 : Int32) dX11_rounds_100 ic_0 ?_
    refine j_sub [1, 3, 0, 4, 5] rfl ?_
    exact t_X11_rounds_101 hK hA hk he hf
  · replace hf := if_1 hc hf
    refine j_iconst hK (1 : Int32) dX11_rounds_93 ic_1 ?_
    refine j_iload hK dX11_rounds_94 4 rfl ?_
    refine j_ishl hK dX11_rounds_96 ?_
    refine j_goto hK 101 dX11_rounds_97 (by decide) ?_
    refine j_sub [1, 3, 0, 4, 5] rfl ?_
    exact t_X11_rounds_101 hK hA hk he hf
def f_X11_rounds_24b (x4 : Int32) (e : Int32 × Int32 × Int32 × Int32 → St → Option (Int32 × St)) (k : Int32 × Int32 × Int32 × Int32 → St → Option (Int32 × St)) (v : Int32 × Int32 × Int32 × Int32) (S : St) : Option (Int32 × St) := (if (gI S 122 3) ≤ v.2.2.2 then e (v.1, v.2.1, v.2.2.1, v.2.2.2) S else bd (f_X11_isEcho 126 x4 v.2.2.2 S) (fun r6 S7 => (if r6 = 0 then f_X11_rounds_103 v.1 v.2.1 v.2.2.1 x4 v.2.2.2 k e S7 else bd (f_X11_laysEcho 126 x4 v.2.2.2 S7) (fun r9 S10 => (if (gI S10 122 25) = x4 then f_X11_rounds_78 v.1 (v.2.1 + (1 : Int32)) x4 v.2.2.2 v.2.2.1 (1 : Int32) k e S10 else f_X11_rounds_78 v.1 (v.2.1 + (1 : Int32)) x4 v.2.2.2 v.2.2.1 (0 : Int32) k e S10)))))
theorem t_X11_rounds_24 {K : CT} (hK : KO K cX11_rounds RX11 6 4 (some .int)) {r : Int32} {S' : St} (hA : zans K (some (.int r), S')) {x4 : Int32} {e : Int32 × Int32 × Int32 × Int32 → St → Option (Int32 × St)} (he : ∀ (v : Int32 × Int32 × Int32 × Int32) (S : St), e v S = some (r, S') → J K 109 [(0, .ref 122), (1, .int v.1), (2, .int v.2.1), (3, .int v.2.2.1), (4, .int x4)] [] S) : ∀ (n : Nat) (v : Int32 × Int32 × Int32 × Int32) (S : St), lp (f_X11_rounds_24b x4 e) n v S = some (r, S') → J K 24 [(0, .ref 122), (1, .int v.1), (2, .int v.2.1), (3, .int v.2.2.1), (4, .int x4), (5, .int v.2.2.2)] [] S :=
  lp_J (P := fun (v : Int32 × Int32 × Int32 × Int32) (S : St) => J K 24 [(0, .ref 122), (1, .int v.1), (2, .int v.2.1), (3, .int v.2.2.1), (4, .int x4), (5, .int v.2.2.2)] [] S) (fun k hk v S hf => by
    unfold f_X11_rounds_24b at hf
    refine j_iload hK dX11_rounds_24 5 rfl ?_
    refine j_aload_n hK dX11_rounds_26 0 rfl rfl ?_
    refine j_getI hK fl_X11_128 dX11_rounds_27 zo_122 zf_11_3 ?_
    refine j_icmp_ge hK 109 dX11_rounds_30 (by decide) (fun hc => ?_) (fun hc => ?_)
    · replace hf := if_1 hc hf
      refine j_sub [0, 1, 2, 3, 4] rfl ?_
      exact he _ _ hf
    · replace hf := if_2 hc hf
      refine j_aload_n hK dX11_rounds_33 0 rfl rfl ?_
      refine j_aload_n hK dX11_rounds_34 0 rfl rfl ?_
      refine j_getR hK fl_X11_31 dX11_rounds_35 zo_122 zf_11_7 zr_122_7 ?_
      refine j_iload hK dX11_rounds_38 4 rfl ?_
      refine j_iload hK dX11_rounds_40 5 rfl ?_
      obtain ⟨r6, S7, h8, hf⟩ := bd_J hf
      refine k_callVi hK (c_X11_isEcho zb_126 h8) dX11_rounds_42 zclX11 zo_122 ml_X11_326 mi_X11_isEcho mx_X11_isEcho in_X11 mc_X11_isEcho hy_X11_isEcho ⟨by decide, by decide⟩ rfl (Nat.le_of_ble_eq_true rfl) ?_
      refine j_if_eq hK 103 dX11_rounds_45 (by decide) (fun hc => ?_) (fun hc => ?_)
      · replace hf := if_1 hc hf
        exact t_X11_rounds_103 hK hA hk he hf
      · replace hf := if_2 hc hf
        refine j_aload_n hK dX11_rounds_48 0 rfl rfl ?_
        refine j_aload_n hK dX11_rounds_49 0 rfl rfl ?_
        refine j_getR hK fl_X11_31 dX11_rounds_50 zo_122 zf_11_7 zr_122_7 ?_
        refine j_iload hK dX11_rounds_53 4 rfl ?_
        refine j_iload hK dX11_rounds_55 5 rfl ?_
        obtain ⟨r9, S10, h11, hf⟩ := bd_J hf
        refine k_callVv hK (c_X11_laysEcho zb_126 h11) dX11_rounds_57 zclX11 zo_122 ml_X11_336 mi_X11_laysEcho mx_X11_laysEcho in_X11 mc_X11_laysEcho hy_X11_laysEcho ⟨by decide, by decide⟩ rfl (Nat.le_of_ble_eq_true rfl) ?_
        refine j_iinc hK (L' := [(2, .int (v.2.1 + (1 : Int32))), (0, .ref 122), (1, .int v.1), (3, .int v.2.2.1), (4, .int x4), (5, .int v.2.2.2)]) dX11_rounds_60 2 rfl (congrArg (fun y => v.2.1 + y) ic_1) (by decide) rfl ?_
        refine j_pc (pc' := 63) rfl ?_
        refine j_iload_n hK dX11_rounds_63 3 rfl rfl ?_
        refine j_aload_n hK dX11_rounds_64 1 rfl rfl ?_
        refine j_getI hK fl_X11_272 dX11_rounds_65 zo_122 zf_11_25 ?_
        refine j_iload hK dX11_rounds_68 4 rfl ?_
        refine j_icmp_ne hK 77 dX11_rounds_70 (by decide) (fun hc => ?_) (fun hc => ?_)
        · replace hf := if_2 hc hf
          refine j_iconst hK (0 : Int32) dX11_rounds_77 ic_0 ?_
          refine j_sub [1, 2, 0, 4, 5] rfl ?_
          exact t_X11_rounds_78 hK hA hk he hf
        · replace hf := if_1 hc hf
          refine j_iconst hK (1 : Int32) dX11_rounds_73 ic_1 ?_
          refine j_goto hK 78 dX11_rounds_74 (by decide) ?_
          refine j_sub [1, 2, 0, 4, 5] rfl ?_
          exact t_X11_rounds_78 hK hA hk he hf)
def f_X11_rounds_14b (e : Int32 × Int32 × Int32 × Int32 → St → Option (Int32 × St)) (k : Int32 × Int32 × Int32 × Int32 → St → Option (Int32 × St)) (v : Int32 × Int32 × Int32 × Int32) (S : St) : Option (Int32 × St) := (if (8 : Int32) ≤ v.2.2.2 then e (v.1, v.2.1, v.2.2.1, v.2.2.2) S else lp (f_X11_rounds_24b v.2.2.2 (fun v12 S13 => k (v12.1, v12.2.1, v12.2.2.1, (v.2.2.2 + (1 : Int32))) S13)) FU (v.1, v.2.1, v.2.2.1, (0 : Int32)) S)
theorem t_X11_rounds_14 {K : CT} (hK : KO K cX11_rounds RX11 6 4 (some .int)) {r : Int32} {S' : St} (hA : zans K (some (.int r), S')) {e : Int32 × Int32 × Int32 × Int32 → St → Option (Int32 × St)} (he : ∀ (v : Int32 × Int32 × Int32 × Int32) (S : St), e v S = some (r, S') → J K 115 [(0, .ref 122), (1, .int v.1), (2, .int v.2.1), (3, .int v.2.2.1)] [] S) : ∀ (n : Nat) (v : Int32 × Int32 × Int32 × Int32) (S : St), lp (f_X11_rounds_14b  e) n v S = some (r, S') → J K 14 [(0, .ref 122), (1, .int v.1), (2, .int v.2.1), (3, .int v.2.2.1), (4, .int v.2.2.2)] [] S :=
  lp_J (P := fun (v : Int32 × Int32 × Int32 × Int32) (S : St) => J K 14 [(0, .ref 122), (1, .int v.1), (2, .int v.2.1), (3, .int v.2.2.1), (4, .int v.2.2.2)] [] S) (fun k hk v S hf => by
    unfold f_X11_rounds_14b at hf
    refine j_iload hK dX11_rounds_14 4 rfl ?_
    refine j_bipush hK (8 : Int32) dX11_rounds_16 bi_8 ?_
    refine j_icmp_ge hK 115 dX11_rounds_18 (by decide) (fun hc => ?_) (fun hc => ?_)
    · replace hf := if_1 hc hf
      refine j_sub [0, 1, 2, 3] rfl ?_
      exact he _ _ hf
    · replace hf := if_2 hc hf
      refine j_iconst hK (0 : Int32) dX11_rounds_21 ic_0 ?_
      refine j_istore hK (L' := [(5, .int (0 : Int32)), (0, .ref 122), (1, .int v.1), (2, .int v.2.1), (3, .int v.2.2.1), (4, .int v.2.2.2)]) dX11_rounds_22 (by decide) rfl ?_
      refine j_sub [1, 2, 3, 4, 5, 0] rfl ?_
      refine t_X11_rounds_24 hK hA  (fun v12 S13 hf => ?_) _ _ _ hf
      refine j_iinc hK (L' := [(4, .int (v.2.2.2 + (1 : Int32))), (0, .ref 122), (1, .int v12.1), (2, .int v12.2.1), (3, .int v12.2.2.1)]) dX11_rounds_109 4 rfl (congrArg (fun y => v.2.2.2 + y) ic_1) (by decide) rfl ?_
      refine j_goto hK 14 dX11_rounds_112 (by decide) ?_
      refine j_sub [1, 2, 3, 4, 0] rfl ?_
      exact hk _ _ hf)
def f_X11_rounds (S : St) : Option (Int32 × St) := lt (sI S 122 0 (0 : Int32)) (fun S14 => lp (f_X11_rounds_14b  (fun v15 S16 => lt (sI S16 122 1 (0 : Int32)) (fun S17 => bd (f_X11_enters v15.2.1.toInt64 S17) (fun r18 S19 => bd (f_X11_enters v15.2.2.1.toInt64 S19) (fun r21 S22 => some (v15.1, S22)))))) FU ((0 : Int32), (0 : Int32), (0 : Int32), (0 : Int32)) S14)
theorem c_X11_rounds {S : St} {r : Int32} {S' : St} (hf : f_X11_rounds S = some (r, S')) : zM yX11_rounds cX11_rounds 6 4 (some .int) [.ref 122] S (some (.int r)) S' := by
  refine zM_of (zpl (by decide)) (Nat.le_of_ble_eq_true rfl) rfl (fun K hK hA => ?_)
  unfold f_X11_rounds at hf
  refine j_aload_n hK dX11_rounds_0 0 rfl rfl ?_
  refine j_iconst hK (0 : Int32) dX11_rounds_1 ic_0 ?_
  refine j_putI hK fl_X11_3 dX11_rounds_2 zo_122 zf_11_0 ?_
  refine lt_S hf (fun S14 hf => ?_)
  refine j_iconst hK (0 : Int32) dX11_rounds_5 ic_0 ?_
  refine j_istore_n hK (L' := [(1, .int (0 : Int32)), (0, .ref 122)]) dX11_rounds_6 rfl (by decide) rfl ?_
  refine j_iconst hK (0 : Int32) dX11_rounds_7 ic_0 ?_
  refine j_istore_n hK (L' := [(2, .int (0 : Int32)), (1, .int (0 : Int32)), (0, .ref 122)]) dX11_rounds_8 rfl (by decide) rfl ?_
  refine j_iconst hK (0 : Int32) dX11_rounds_9 ic_0 ?_
  refine j_pc (pc' := 10) rfl ?_
  refine j_istore_n hK (L' := [(3, .int (0 : Int32)), (2, .int (0 : Int32)), (1, .int (0 : Int32)), (0, .ref 122)]) dX11_rounds_10 rfl (by decide) rfl ?_
  refine j_iconst hK (0 : Int32) dX11_rounds_11 ic_0 ?_
  refine j_istore hK (L' := [(4, .int (0 : Int32)), (3, .int (0 : Int32)), (2, .int (0 : Int32)), (1, .int (0 : Int32)), (0, .ref 122)]) dX11_rounds_12 (by decide) rfl ?_
  refine j_sub [4, 3, 2, 1, 0] rfl ?_
  refine t_X11_rounds_14 hK hA  (fun v15 S16 hf => ?_) _ _ _ hf
  refine j_aload_n hK dX11_rounds_115 0 rfl rfl ?_
  refine j_iconst hK (0 : Int32) dX11_rounds_116 ic_0 ?_
  refine j_putI hK fl_X11_15 dX11_rounds_117 zo_122 zf_11_1 ?_
  refine lt_S hf (fun S17 hf => ?_)
  refine j_aload_n hK dX11_rounds_120 0 rfl rfl ?_
  refine j_iload_n hK dX11_rounds_121 2 rfl rfl ?_
  refine j_i2l hK dX11_rounds_122 ?_
  obtain ⟨r18, S19, h20, hf⟩ := bd_J hf
  refine k_callVv hK (c_X11_enters h20) dX11_rounds_123 zclX11 zo_122 ml_X11_340 mi_X11_enters mx_X11_enters in_X11 mc_X11_enters hy_X11_enters ⟨by decide, by decide⟩ rfl (Nat.le_of_ble_eq_true rfl) ?_
  refine j_pc (pc' := 126) rfl ?_
  refine j_aload_n hK dX11_rounds_126 0 rfl rfl ?_
  refine j_iload_n hK dX11_rounds_127 3 rfl rfl ?_
  refine j_i2l hK dX11_rounds_128 ?_
  obtain ⟨r21, S22, h23, hf⟩ := bd_J hf
  refine k_callVv hK (c_X11_enters h23) dX11_rounds_129 zclX11 zo_122 ml_X11_340 mi_X11_enters mx_X11_enters in_X11 mc_X11_enters hy_X11_enters ⟨by decide, by decide⟩ rfl (Nat.le_of_ble_eq_true rfl) ?_
  refine j_iload_n hK dX11_rounds_132 1 rfl rfl ?_
  exact j_iret hK dX11_rounds_133 rfl (rt_I hA hf)
def f_X11_way_145 (x1 : Int32) (x2 : Int32) (x3 : Int32) (x5 : Int32) (s0 : Int32) (k e : Int32 × Int32 → St → Option (Int32 × St)) (S : St) : Option (Int32 × St) := k (s0, (x5 + (-1 : Int32))) S
theorem t_X11_way_145 {K : CT} (hK : KO K cX11_way RX11 7 3 (some .int)) {r : Int32} {S' : St} (hA : zans K (some (.int r), S')) {x1 : Int32} {x2 : Int32} {x3 : Int32} {x5 : Int32} {s0 : Int32} {k e : Int32 × Int32 → St → Option (Int32 × St)} (hk : ∀ (v : Int32 × Int32) (S : St), k v S = some (r, S') → J K 67 [(0, .ref 122), (1, .int x1), (2, .int x2), (3, .int x3), (4, .int v.1), (5, .int v.2)] [] S) (he : ∀ (v : Int32 × Int32) (S : St), e v S = some (r, S') → J K 153 [(0, .ref 122), (1, .int x1), (2, .int x2), (3, .int x3), (4, .int v.1)] [] S) {S : St} (hf : f_X11_way_145 x1 x2 x3 x5 s0 k e S = some (r, S')) : J K 145 [(0, .ref 122), (1, .int x1), (2, .int x2), (3, .int x3), (5, .int x5)] [.int s0] S := by
  unfold f_X11_way_145 at hf
  refine j_istore hK (L' := [(4, .int s0), (0, .ref 122), (1, .int x1), (2, .int x2), (3, .int x3), (5, .int x5)]) dX11_way_145 (by decide) rfl ?_
  refine j_iinc hK (L' := [(5, .int (x5 + (-1 : Int32))), (4, .int s0), (0, .ref 122), (1, .int x1), (2, .int x2), (3, .int x3)]) dX11_way_147 5 rfl (congrArg (fun y => x5 + y) ic_m1) (by decide) rfl ?_
  refine j_goto hK 67 dX11_way_150 (by decide) ?_
  refine j_sub [2, 3, 4, 5, 1, 0] rfl ?_
  exact hk _ _ hf
def f_X11_way_143 (x1 : Int32) (x2 : Int32) (x3 : Int32) (x4 : Int32) (x5 : Int32) (k e : Int32 × Int32 → St → Option (Int32 × St)) (S : St) : Option (Int32 × St) := f_X11_way_145 x1 x2 x3 x5 x4 k e S
theorem t_X11_way_143 {K : CT} (hK : KO K cX11_way RX11 7 3 (some .int)) {r : Int32} {S' : St} (hA : zans K (some (.int r), S')) {x1 : Int32} {x2 : Int32} {x3 : Int32} {x4 : Int32} {x5 : Int32} {k e : Int32 × Int32 → St → Option (Int32 × St)} (hk : ∀ (v : Int32 × Int32) (S : St), k v S = some (r, S') → J K 67 [(0, .ref 122), (1, .int x1), (2, .int x2), (3, .int x3), (4, .int v.1), (5, .int v.2)] [] S) (he : ∀ (v : Int32 × Int32) (S : St), e v S = some (r, S') → J K 153 [(0, .ref 122), (1, .int x1), (2, .int x2), (3, .int x3), (4, .int v.1)] [] S) {S : St} (hf : f_X11_way_143 x1 x2 x3 x4 x5 k e S = some (r, S')) : J K 143 [(0, .ref 122), (1, .int x1), (2, .int x2), (3, .int x3), (4, .int x4), (5, .int x5)] [] S := by
  unfold f_X11_way_143 at hf
  refine j_iload hK dX11_way_143 4 rfl ?_
  refine j_sub [0, 1, 2, 3, 5] rfl ?_
  exact t_X11_way_145 hK hA hk he hf
def f_X11_way_102 (x1 : Int32) (x2 : Int32) (x3 : Int32) (x4 : Int32) (x5 : Int32) (s0 : Int32) (k e : Int32 × Int32 → St → Option (Int32 × St)) (S : St) : Option (Int32 × St) := (if s0 = 0 then f_X11_way_143 x1 x2 x3 x4 x5 k e S else if inb x5 39 then bd (f_X11_beyond x5 x3 S) (fun r2 S3 => bd (f_X11_farOf r2 x2 S3) (fun r5 S6 => bd (f_X11_farOf x3 x2 S6) (fun r8 S9 => (if ((gI S 126 x5.toNatClampNeg) + r5) = r8 then f_X11_way_145 x1 x2 x3 x5 x5 k e S9 else f_X11_way_143 x1 x2 x3 x4 x5 k e S9)))) else none)
theorem t_X11_way_102 {K : CT} (hK : KO K cX11_way RX11 7 3 (some .int)) {r : Int32} {S' : St} (hA : zans K (some (.int r), S')) {x1 : Int32} {x2 : Int32} {x3 : Int32} {x4 : Int32} {x5 : Int32} {s0 : Int32} {k e : Int32 × Int32 → St → Option (Int32 × St)} (hk : ∀ (v : Int32 × Int32) (S : St), k v S = some (r, S') → J K 67 [(0, .ref 122), (1, .int x1), (2, .int x2), (3, .int x3), (4, .int v.1), (5, .int v.2)] [] S) (he : ∀ (v : Int32 × Int32) (S : St), e v S = some (r, S') → J K 153 [(0, .ref 122), (1, .int x1), (2, .int x2), (3, .int x3), (4, .int v.1)] [] S) {S : St} (hf : f_X11_way_102 x1 x2 x3 x4 x5 s0 k e S = some (r, S')) : J K 102 [(0, .ref 122), (1, .int x1), (2, .int x2), (3, .int x3), (4, .int x4), (5, .int x5)] [.int s0] S := by
  unfold f_X11_way_102 at hf
  refine j_istore hK (L' := [(6, .int s0), (0, .ref 122), (1, .int x1), (2, .int x2), (3, .int x3), (4, .int x4), (5, .int x5)]) dX11_way_102 (by decide) rfl ?_
  refine j_iload hK dX11_way_104 0 rfl ?_
  refine j_if_eq hK 143 dX11_way_106 (by decide) (fun hc => ?_) (fun hc => ?_)
  · replace hf := if_1 hc hf
    refine j_sub [1, 2, 3, 4, 5, 6] rfl ?_
    exact t_X11_way_143 hK hA hk he hf
  · replace hf := if_2 hc hf
    refine j_aload_n hK dX11_way_109 1 rfl rfl ?_
    refine j_getR hK fl_X11_31 dX11_way_110 zo_122 zf_11_7 zr_122_7 ?_
    refine j_iload hK dX11_way_113 6 rfl ?_
    obtain ⟨hi1, hf⟩ := gd hf
    refine k_iald hK dX11_way_115 zb_126 hi1 rfl ?_
    refine j_aload_n hK dX11_way_116 1 rfl rfl ?_
    refine j_aload_n hK dX11_way_117 1 rfl rfl ?_
    refine j_iload hK dX11_way_118 6 rfl ?_
    refine j_pc (pc' := 120) rfl ?_
    refine j_iload_n hK dX11_way_120 4 rfl rfl ?_
    obtain ⟨r2, S3, h4, hf⟩ := bd_J hf
    refine k_callVi hK (c_X11_beyond h4) dX11_way_121 zclX11 zo_122 ml_X11_278 mi_X11_beyond mx_X11_beyond in_X11 mc_X11_beyond hy_X11_beyond ⟨by decide, by decide⟩ rfl (Nat.le_of_ble_eq_true rfl) ?_
    refine j_iload_n hK dX11_way_124 3 rfl rfl ?_
    obtain ⟨r5, S6, h7, hf⟩ := bd_J hf
    refine k_callVi hK (c_X11_farOf h7) dX11_way_125 zclX11 zo_122 ml_X11_291 mi_X11_farOf mx_X11_farOf in_X11 mc_X11_farOf hy_X11_farOf ⟨by decide, by decide⟩ rfl (Nat.le_of_ble_eq_true rfl) ?_
    refine j_iadd hK dX11_way_128 ?_
    refine j_aload_n hK dX11_way_129 1 rfl rfl ?_
    refine j_iload_n hK dX11_way_130 4 rfl rfl ?_
    refine j_iload_n hK dX11_way_131 3 rfl rfl ?_
    refine j_pc (pc' := 132) rfl ?_
    obtain ⟨r8, S9, h10, hf⟩ := bd_J hf
    refine k_callVi hK (c_X11_farOf h10) dX11_way_132 zclX11 zo_122 ml_X11_291 mi_X11_farOf mx_X11_farOf in_X11 mc_X11_farOf hy_X11_farOf ⟨by decide, by decide⟩ rfl (Nat.le_of_ble_eq_true rfl) ?_
    refine j_icmp_ne hK 143 dX11_way_135 (by decide) (fun hc => ?_) (fun hc => ?_)
    · replace hf := if_2 hc hf
      refine j_sub [1, 2, 3, 4, 5, 6] rfl ?_
      exact t_X11_way_143 hK hA hk he hf
    · replace hf := if_1 hc hf
      refine j_iload hK dX11_way_138 6 rfl ?_
      refine j_goto hK 145 dX11_way_140 (by decide) ?_
      refine j_sub [1, 2, 3, 4, 6] rfl ?_
      exact t_X11_way_145 hK hA hk he hf
def f_X11_way_101 (x1 : Int32) (x2 : Int32) (x3 : Int32) (x4 : Int32) (x5 : Int32) (k e : Int32 × Int32 → St → Option (Int32 × St)) (S : St) : Option (Int32 × St) := f_X11_way_102 x1 x2 x3 x4 x5 (0 : Int32) k e S
theorem t_X11_way_101 {K : CT} (hK : KO K cX11_way RX11 7 3 (some .int)) {r : Int32} {S' : St} (hA : zans K (some (.int r), S')) {x1 : Int32} {x2 : Int32} {x3 : Int32} {x4 : Int32} {x5 : Int32} {k e : Int32 × Int32 → St → Option (Int32 × St)} (hk : ∀ (v : Int32 × Int32) (S : St), k v S = some (r, S') → J K 67 [(0, .ref 122), (1, .int x1), (2, .int x2), (3, .int x3), (4, .int v.1), (5, .int v.2)] [] S) (he : ∀ (v : Int32 × Int32) (S : St), e v S = some (r, S') → J K 153 [(0, .ref 122), (1, .int x1), (2, .int x2), (3, .int x3), (4, .int v.1)] [] S) {S : St} (hf : f_X11_way_101 x1 x2 x3 x4 x5 k e S = some (r, S')) : J K 101 [(0, .ref 122), (1, .int x1), (2, .int x2), (3, .int x3), (4, .int x4), (5, .int x5)] [] S := by
  unfold f_X11_way_101 at hf
  refine j_iconst hK (0 : Int32) dX11_way_101 ic_0 ?_
  exact t_X11_way_102 hK hA hk he hf
def f_X11_way_67b (x1 : Int32) (x2 : Int32) (x3 : Int32) (e : Int32 × Int32 → St → Option (Int32 × St)) (k : Int32 × Int32 → St → Option (Int32 × St)) (v : Int32 × Int32) (S : St) : Option (Int32 × St) := (if v.2 < 0 then e (v.1, v.2) S else bd (f_X11_has (gI S 126 36) v.2 S) (fun r11 S12 => (if r11 = 0 then f_X11_way_101 x1 x2 x3 v.1 v.2 k e S12 else bd (f_X11_isEnd v.2 x3 S12) (fun r14 S15 => (if r14 = 0 then f_X11_way_101 x1 x2 x3 v.1 v.2 k e S15 else f_X11_way_102 x1 x2 x3 v.1 v.2 (1 : Int32) k e S15)))))
theorem t_X11_way_67 {K : CT} (hK : KO K cX11_way RX11 7 3 (some .int)) {r : Int32} {S' : St} (hA : zans K (some (.int r), S')) {x1 : Int32} {x2 : Int32} {x3 : Int32} {e : Int32 × Int32 → St → Option (Int32 × St)} (he : ∀ (v : Int32 × Int32) (S : St), e v S = some (r, S') → J K 153 [(0, .ref 122), (1, .int x1), (2, .int x2), (3, .int x3), (4, .int v.1)] [] S) : ∀ (n : Nat) (v : Int32 × Int32) (S : St), lp (f_X11_way_67b x1 x2 x3 e) n v S = some (r, S') → J K 67 [(0, .ref 122), (1, .int x1), (2, .int x2), (3, .int x3), (4, .int v.1), (5, .int v.2)] [] S :=
  lp_J (P := fun (v : Int32 × Int32) (S : St) => J K 67 [(0, .ref 122), (1, .int x1), (2, .int x2), (3, .int x3), (4, .int v.1), (5, .int v.2)] [] S) (fun k hk v S hf => by
    unfold f_X11_way_67b at hf
    refine j_iload hK dX11_way_67 5 rfl ?_
    refine j_if_lt hK 153 dX11_way_69 (by decide) (fun hc => ?_) (fun hc => ?_)
    · replace hf := if_1 hc hf
      refine j_sub [0, 1, 2, 3, 4] rfl ?_
      exact he _ _ hf
    · replace hf := if_2 hc hf
      refine j_aload_n hK dX11_way_72 0 rfl rfl ?_
      refine j_getR hK fl_X11_31 dX11_way_73 zo_122 zf_11_7 zr_122_7 ?_
      refine j_bipush hK (36 : Int32) dX11_way_76 bi_36 ?_
      refine k_iald hK dX11_way_78 zb_126 (by decide) tn_36 ?_
      refine j_iload hK dX11_way_79 5 rfl ?_
      obtain ⟨r11, S12, h13, hf⟩ := bd_J hf
      refine k_callSi hK (c_X11_has h13) dX11_way_81 ml_X11_262 ms_X11_has in_X11 mc_X11_has hy_X11_has ⟨by decide, by decide⟩ rfl (Nat.le_of_ble_eq_true rfl) ?_
      refine j_if_eq hK 101 dX11_way_84 (by decide) (fun hc => ?_) (fun hc => ?_)
      · replace hf := if_1 hc hf
        exact t_X11_way_101 hK hA hk he hf
      · replace hf := if_2 hc hf
        refine j_aload_n hK dX11_way_87 0 rfl rfl ?_
        refine j_iload hK dX11_way_88 5 rfl ?_
        refine j_iload_n hK dX11_way_90 3 rfl rfl ?_
        obtain ⟨r14, S15, h16, hf⟩ := bd_J hf
        refine k_callVi hK (c_X11_isEnd h16) dX11_way_91 zclX11 zo_122 ml_X11_266 mi_X11_isEnd mx_X11_isEnd in_X11 mc_X11_isEnd hy_X11_isEnd ⟨by decide, by decide⟩ rfl (Nat.le_of_ble_eq_true rfl) ?_
        refine j_if_eq hK 101 dX11_way_94 (by decide) (fun hc => ?_) (fun hc => ?_)
        · replace hf := if_1 hc hf
          exact t_X11_way_101 hK hA hk he hf
        · replace hf := if_2 hc hf
          refine j_iconst hK (1 : Int32) dX11_way_97 ic_1 ?_
          refine j_goto hK 102 dX11_way_98 (by decide) ?_
          exact t_X11_way_102 hK hA hk he hf)
def f_X11_way_51b (x1 : Int32) (x2 : Int32) (e : Int32 → St → Option (Int32 × St)) (k : Int32 → St → Option (Int32 × St)) (v : Int32) (S : St) : Option (Int32 × St) := (if v = x2 then e v S else lt ((gI S 122 3) - (1 : Int32)) (fun y17 => lp (f_X11_way_67b x1 x2 v (fun v18 S19 => bd (f_X11_enters v18.1.toInt64 S19) (fun r20 S21 => bd (f_X11_beyond v18.1 v S21) (fun r23 S24 => k r23 S24)))) FU ((-1 : Int32), y17) S))
theorem t_X11_way_51 {K : CT} (hK : KO K cX11_way RX11 7 3 (some .int)) {r : Int32} {S' : St} (hA : zans K (some (.int r), S')) {x1 : Int32} {x2 : Int32} {e : Int32 → St → Option (Int32 × St)} (he : ∀ (v : Int32) (S : St), e v S = some (r, S') → J K 171 [(0, .ref 122), (1, .int x1), (2, .int x2)] [] S) : ∀ (n : Nat) (v : Int32) (S : St), lp (f_X11_way_51b x1 x2 e) n v S = some (r, S') → J K 51 [(0, .ref 122), (1, .int x1), (2, .int x2), (3, .int v)] [] S :=
  lp_J (P := fun (v : Int32) (S : St) => J K 51 [(0, .ref 122), (1, .int x1), (2, .int x2), (3, .int v)] [] S) (fun k hk v S hf => by
    unfold f_X11_way_51b at hf
    refine j_iload_n hK dX11_way_51 3 rfl rfl ?_
    refine j_iload_n hK dX11_way_52 2 rfl rfl ?_
    refine j_icmp_eq hK 171 dX11_way_53 (by decide) (fun hc => ?_) (fun hc => ?_)
    · replace hf := if_1 hc hf
      refine j_sub [0, 1, 2] rfl ?_
      exact he _ _ hf
    · replace hf := if_2 hc hf
      refine j_iconst hK (-1 : Int32) dX11_way_56 ic_m1 ?_
      refine j_istore hK (L' := [(4, .int (-1 : Int32)), (0, .ref 122), (1, .int x1), (2, .int x2), (3, .int v)]) dX11_way_57 (by decide) rfl ?_
      refine j_aload_n hK dX11_way_59 1 rfl rfl ?_
      refine j_getI hK fl_X11_128 dX11_way_60 zo_122 zf_11_3 ?_
      refine j_iconst hK (1 : Int32) dX11_way_63 ic_1 ?_
      refine j_isub hK dX11_way_64 ?_
      refine lt_I hf (fun y17 hf => ?_)
      refine j_istore hK (L' := [(5, .int y17), (4, .int (-1 : Int32)), (0, .ref 122), (1, .int x1), (2, .int x2), (3, .int v)]) dX11_way_65 (by decide) rfl ?_
      refine j_sub [2, 3, 4, 5, 1, 0] rfl ?_
      refine t_X11_way_67 hK hA  (fun v18 S19 hf => ?_) _ _ _ hf
      refine j_aload_n hK dX11_way_153 0 rfl rfl ?_
      refine j_iload hK dX11_way_154 4 rfl ?_
      refine j_i2l hK dX11_way_156 ?_
      obtain ⟨r20, S21, h22, hf⟩ := bd_J hf
      refine k_callVv hK (c_X11_enters h22) dX11_way_157 zclX11 zo_122 ml_X11_340 mi_X11_enters mx_X11_enters in_X11 mc_X11_enters hy_X11_enters ⟨by decide, by decide⟩ rfl (Nat.le_of_ble_eq_true rfl) ?_
      refine j_aload_n hK dX11_way_160 0 rfl rfl ?_
      refine j_iload hK dX11_way_161 4 rfl ?_
      refine j_iload_n hK dX11_way_163 3 rfl rfl ?_
      refine j_pc (pc' := 164) rfl ?_
      obtain ⟨r23, S24, h25, hf⟩ := bd_J hf
      refine k_callVi hK (c_X11_beyond h25) dX11_way_164 zclX11 zo_122 ml_X11_278 mi_X11_beyond mx_X11_beyond in_X11 mc_X11_beyond hy_X11_beyond ⟨by decide, by decide⟩ rfl (Nat.le_of_ble_eq_true rfl) ?_
      refine j_istore_n hK (L' := [(3, .int r23), (0, .ref 122), (1, .int x1), (2, .int x2), (4, .int v18.1)]) dX11_way_167 rfl (by decide) rfl ?_
      refine j_goto hK 51 dX11_way_168 (by decide) ?_
      refine j_sub [1, 2, 3, 0] rfl ?_
      exact hk _ _ hf)
def f_X11_way (p1 : Int32) (p2 : Int32) (S : St) : Option (Int32 × St) := lt (sI S 122 0 (0 : Int32)) (fun S26 => bd (f_X11_isCavern p1 S26) (fun r27 S28 => (if r27 = 0 then some ((-1 : Int32), S28) else bd (f_X11_isCavern p2 S28) (fun r30 S31 => (if r30 = 0 then some ((-1 : Int32), S31) else bd (f_X11_laysFar (gI S31 126 36) S31) (fun r33 S34 => bd (f_X11_areJoined p1 p2 S34) (fun r36 S37 => (if r36 = 0 then some ((-2 : Int32), S37) else lt (sI S37 122 1 (0 : Int32)) (fun S39 => lp (f_X11_way_51b p1 p2 (fun v40 S41 => bd (f_X11_farOf p1 p2 S41) (fun r42 S43 => some (r42, S43)))) FU p1 S39)))))))))
theorem c_X11_way {p1 : Int32} {p2 : Int32} {S : St} {r : Int32} {S' : St} (hf : f_X11_way p1 p2 S = some (r, S')) : zM yX11_way cX11_way 7 3 (some .int) [.ref 122, .int p1, .int p2] S (some (.int r)) S' := by
  refine zM_of (zpl (by decide)) (Nat.le_of_ble_eq_true rfl) rfl (fun K hK hA => ?_)
  unfold f_X11_way at hf
  refine j_aload_n hK dX11_way_0 0 rfl rfl ?_
  refine j_iconst hK (0 : Int32) dX11_way_1 ic_0 ?_
  refine j_putI hK fl_X11_3 dX11_way_2 zo_122 zf_11_0 ?_
  refine lt_S hf (fun S26 hf => ?_)
  refine j_iload_n hK dX11_way_5 1 rfl rfl ?_
  obtain ⟨r27, S28, h29, hf⟩ := bd_J hf
  refine k_callSi hK (c_X11_isCavern h29) dX11_way_6 ml_X11_256 ms_X11_isCavern in_X11 mc_X11_isCavern hy_X11_isCavern ⟨by decide, by decide⟩ rfl (Nat.le_of_ble_eq_true rfl) ?_
  refine j_if_eq hK 19 dX11_way_9 (by decide) (fun hc => ?_) (fun hc => ?_)
  · replace hf := if_1 hc hf
    refine j_iconst hK (-1 : Int32) dX11_way_19 ic_m1 ?_
    exact j_iret hK dX11_way_20 rfl (rt_I hA hf)
  · replace hf := if_2 hc hf
    refine j_iload_n hK dX11_way_12 2 rfl rfl ?_
    obtain ⟨r30, S31, h32, hf⟩ := bd_J hf
    refine k_callSi hK (c_X11_isCavern h32) dX11_way_13 ml_X11_256 ms_X11_isCavern in_X11 mc_X11_isCavern hy_X11_isCavern ⟨by decide, by decide⟩ rfl (Nat.le_of_ble_eq_true rfl) ?_
    refine j_if_ne hK 21 dX11_way_16 (by decide) (fun hc => ?_) (fun hc => ?_)
    · replace hf := if_2 hc hf
      refine j_aload_n hK dX11_way_21 0 rfl rfl ?_
      refine j_aload_n hK dX11_way_22 0 rfl rfl ?_
      refine j_getR hK fl_X11_31 dX11_way_23 zo_122 zf_11_7 zr_122_7 ?_
      refine j_bipush hK (36 : Int32) dX11_way_26 bi_36 ?_
      refine k_iald hK dX11_way_28 zb_126 (by decide) tn_36 ?_
      obtain ⟨r33, S34, h35, hf⟩ := bd_J hf
      refine k_callVv hK (c_X11_laysFar h35) dX11_way_29 zclX11 zo_122 ml_X11_302 mi_X11_laysFar mx_X11_laysFar in_X11 mc_X11_laysFar hy_X11_laysFar ⟨by decide, by decide⟩ rfl (Nat.le_of_ble_eq_true rfl) ?_
      refine j_aload_n hK dX11_way_32 0 rfl rfl ?_
      refine j_pc (pc' := 33) rfl ?_
      refine j_iload_n hK dX11_way_33 1 rfl rfl ?_
      refine j_iload_n hK dX11_way_34 2 rfl rfl ?_
      obtain ⟨r36, S37, h38, hf⟩ := bd_J hf
      refine k_callVi hK (c_X11_areJoined h38) dX11_way_35 zclX11 zo_122 ml_X11_294 mi_X11_areJoined mx_X11_areJoined in_X11 mc_X11_areJoined hy_X11_areJoined ⟨by decide, by decide⟩ rfl (Nat.le_of_ble_eq_true rfl) ?_
      refine j_if_ne hK 44 dX11_way_38 (by decide) (fun hc => ?_) (fun hc => ?_)
      · replace hf := if_2 hc hf
        refine j_aload_n hK dX11_way_44 0 rfl rfl ?_
        refine j_iconst hK (0 : Int32) dX11_way_45 ic_0 ?_
        refine j_putI hK fl_X11_15 dX11_way_46 zo_122 zf_11_1 ?_
        refine lt_S hf (fun S39 hf => ?_)
        refine j_iload_n hK dX11_way_49 1 rfl rfl ?_
        refine j_istore_n hK (L' := [(3, .int p1), (0, .ref 122), (1, .int p1), (2, .int p2)]) dX11_way_50 rfl (by decide) rfl ?_
        refine j_sub [1, 2, 3, 0] rfl ?_
        refine t_X11_way_51 hK hA  (fun v40 S41 hf => ?_) _ _ _ hf
        refine j_aload_n hK dX11_way_171 0 rfl rfl ?_
        refine j_iload_n hK dX11_way_172 1 rfl rfl ?_
        refine j_iload_n hK dX11_way_173 2 rfl rfl ?_
        obtain ⟨r42, S43, h44, hf⟩ := bd_J hf
        refine k_callVi hK (c_X11_farOf h44) dX11_way_174 zclX11 zo_122 ml_X11_291 mi_X11_farOf mx_X11_farOf in_X11 mc_X11_farOf hy_X11_farOf ⟨by decide, by decide⟩ rfl (Nat.le_of_ble_eq_true rfl) ?_
        exact j_iret hK dX11_way_177 rfl (rt_I hA hf)
      · replace hf := if_1 hc hf
        refine j_bipush hK (-2 : Int32) dX11_way_41 bi_m2 ?_
        exact j_iret hK dX11_way_43 rfl (rt_I hA hf)
    · replace hf := if_1 hc hf
      refine j_iconst hK (-1 : Int32) dX11_way_19 ic_m1 ?_
      exact j_iret hK dX11_way_20 rfl (rt_I hA hf)
def f_X11_meets_93 (x1 : Int32) (x2 : Int32) (x4 : Int32) (x5 : Int32) (x6 : Int32) (s0 : Int32) (k e : Int32 × Int32 × Int32 → St → Option (Int32 × St)) (S : St) : Option (Int32 × St) := lt (mnI x4 x6) (fun y1 => k (s0, y1, (x5 + (1 : Int32))) S)
theorem t_X11_meets_93 {K : CT} (hK : KO K cX11_meets RX11 7 3 (some .int)) {r : Int32} {S' : St} (hA : zans K (some (.int r), S')) {x1 : Int32} {x2 : Int32} {x4 : Int32} {x5 : Int32} {x6 : Int32} {s0 : Int32} {k e : Int32 × Int32 × Int32 → St → Option (Int32 × St)} (hk : ∀ (v : Int32 × Int32 × Int32) (S : St), k v S = some (r, S') → J K 54 [(0, .ref 122), (1, .int x1), (2, .int x2), (3, .int v.1), (4, .int v.2.1), (5, .int v.2.2)] [] S) (he : ∀ (v : Int32 × Int32 × Int32) (S : St), e v S = some (r, S') → J K 109 [(0, .ref 122), (1, .int x1), (2, .int x2), (3, .int v.1)] [] S) {S : St} (hf : f_X11_meets_93 x1 x2 x4 x5 x6 s0 k e S = some (r, S')) : J K 93 [(0, .ref 122), (1, .int x1), (2, .int x2), (4, .int x4), (5, .int x5), (6, .int x6)] [.int s0] S := by
  unfold f_X11_meets_93 at hf
  refine j_istore_n hK (L' := [(3, .int s0), (0, .ref 122), (1, .int x1), (2, .int x2), (4, .int x4), (5, .int x5), (6, .int x6)]) dX11_meets_93 rfl (by decide) rfl ?_
  refine j_iload hK dX11_meets_94 4 rfl ?_
  refine j_iload hK dX11_meets_96 6 rfl ?_
  refine j_min hK ml_X11_146 dX11_meets_98 (by decide) (Nat.le_of_ble_eq_true rfl) ?_
  refine lt_I hf (fun y1 hf => ?_)
  refine j_istore hK (L' := [(4, .int y1), (3, .int s0), (0, .ref 122), (1, .int x1), (2, .int x2), (5, .int x5), (6, .int x6)]) dX11_meets_101 (by decide) rfl ?_
  refine j_iinc hK (L' := [(5, .int (x5 + (1 : Int32))), (4, .int y1), (3, .int s0), (0, .ref 122), (1, .int x1), (2, .int x2), (6, .int x6)]) dX11_meets_103 5 rfl (congrArg (fun y => x5 + y) ic_1) (by decide) rfl ?_
  refine j_goto hK 54 dX11_meets_106 (by decide) ?_
  refine j_sub [3, 4, 5, 2, 1, 0] rfl ?_
  exact hk _ _ hf
def f_X11_meets_54b (x1 : Int32) (x2 : Int32) (e : Int32 × Int32 × Int32 → St → Option (Int32 × St)) (k : Int32 × Int32 × Int32 → St → Option (Int32 × St)) (v : Int32 × Int32 × Int32) (S : St) : Option (Int32 × St) := (if (8 : Int32) ≤ v.2.2 then e (v.1, v.2.1, v.2.2) S else bd (f_X11_farOf x1 v.2.2 S) (fun r2 S3 => bd (f_X11_farOf x2 v.2.2 S3) (fun r5 S6 => lt (mxI r2 r5) (fun y8 => (if v.2.1 ≤ y8 then f_X11_meets_93 x1 x2 v.2.1 v.2.2 y8 v.1 k e S6 else f_X11_meets_93 x1 x2 v.2.1 v.2.2 y8 v.2.2 k e S6)))))
theorem t_X11_meets_54 {K : CT} (hK : KO K cX11_meets RX11 7 3 (some .int)) {r : Int32} {S' : St} (hA : zans K (some (.int r), S')) {x1 : Int32} {x2 : Int32} {e : Int32 × Int32 × Int32 → St → Option (Int32 × St)} (he : ∀ (v : Int32 × Int32 × Int32) (S : St), e v S = some (r, S') → J K 109 [(0, .ref 122), (1, .int x1), (2, .int x2), (3, .int v.1)] [] S) : ∀ (n : Nat) (v : Int32 × Int32 × Int32) (S : St), lp (f_X11_meets_54b x1 x2 e) n v S = some (r, S') → J K 54 [(0, .ref 122), (1, .int x1), (2, .int x2), (3, .int v.1), (4, .int v.2.1), (5, .int v.2.2)] [] S :=
  lp_J (P := fun (v : Int32 × Int32 × Int32) (S : St) => J K 54 [(0, .ref 122), (1, .int x1), (2, .int x2), (3, .int v.1), (4, .int v.2.1), (5, .int v.2.2)] [] S) (fun k hk v S hf => by
    unfold f_X11_meets_54b at hf
    refine j_iload hK dX11_meets_54 5 rfl ?_
    refine j_bipush hK (8 : Int32) dX11_meets_56 bi_8 ?_
    refine j_icmp_ge hK 109 dX11_meets_58 (by decide) (fun hc => ?_) (fun hc => ?_)
    · replace hf := if_1 hc hf
      refine j_sub [0, 1, 2, 3] rfl ?_
      exact he _ _ hf
    · replace hf := if_2 hc hf
      refine j_aload_n hK dX11_meets_61 0 rfl rfl ?_
      refine j_iload_n hK dX11_meets_62 1 rfl rfl ?_
      refine j_iload hK dX11_meets_63 5 rfl ?_
      obtain ⟨r2, S3, h4, hf⟩ := bd_J hf
      refine k_callVi hK (c_X11_farOf h4) dX11_meets_65 zclX11 zo_122 ml_X11_291 mi_X11_farOf mx_X11_farOf in_X11 mc_X11_farOf hy_X11_farOf ⟨by decide, by decide⟩ rfl (Nat.le_of_ble_eq_true rfl) ?_
      refine j_aload_n hK dX11_meets_68 0 rfl rfl ?_
      refine j_iload_n hK dX11_meets_69 2 rfl rfl ?_
      refine j_iload hK dX11_meets_70 5 rfl ?_
      refine j_pc (pc' := 72) rfl ?_
      obtain ⟨r5, S6, h7, hf⟩ := bd_J hf
      refine k_callVi hK (c_X11_farOf h7) dX11_meets_72 zclX11 zo_122 ml_X11_291 mi_X11_farOf mx_X11_farOf in_X11 mc_X11_farOf hy_X11_farOf ⟨by decide, by decide⟩ rfl (Nat.le_of_ble_eq_true rfl) ?_
      refine j_max hK ml_X11_297 dX11_meets_75 (by decide) (Nat.le_of_ble_eq_true rfl) ?_
      refine lt_I hf (fun y8 hf => ?_)
      refine j_istore hK (L' := [(6, .int y8), (0, .ref 122), (1, .int x1), (2, .int x2), (3, .int v.1), (4, .int v.2.1), (5, .int v.2.2)]) dX11_meets_78 (by decide) rfl ?_
      refine j_iload hK dX11_meets_80 0 rfl ?_
      refine j_iload hK dX11_meets_82 5 rfl ?_
      refine j_icmp_ge hK 92 dX11_meets_84 (by decide) (fun hc => ?_) (fun hc => ?_)
      · replace hf := if_1 hc hf
        refine j_iload_n hK dX11_meets_92 4 rfl rfl ?_
        refine j_sub [1, 2, 3, 5, 6, 0] rfl ?_
        exact t_X11_meets_93 hK hA hk he hf
      · replace hf := if_2 hc hf
        refine j_iload hK dX11_meets_87 6 rfl ?_
        refine j_goto hK 93 dX11_meets_89 (by decide) ?_
        refine j_sub [1, 2, 3, 5, 6, 0] rfl ?_
        exact t_X11_meets_93 hK hA hk he hf)
def f_X11_meets (p1 : Int32) (p2 : Int32) (S : St) : Option (Int32 × St) := lt (sI S 122 0 (0 : Int32)) (fun S9 => bd (f_X11_isCavern p1 S9) (fun r10 S11 => (if r10 = 0 then some ((-1 : Int32), S11) else bd (f_X11_isCavern p2 S11) (fun r13 S14 => (if r13 = 0 then some ((-1 : Int32), S14) else bd (f_X11_laysFar (gI S14 126 36) S14) (fun r16 S17 => bd (f_X11_areJoined p1 p2 S17) (fun r19 S20 => (if r19 = 0 then some ((-2 : Int32), S20) else lp (f_X11_meets_54b p1 p2 (fun v22 S23 => lt (sI S23 122 1 (0 : Int32)) (fun S24 => bd (f_X11_farOf p1 v22.1 S24) (fun r25 S26 => bd (f_X11_enters r25.toInt64 S26) (fun r28 S29 => bd (f_X11_farOf p2 v22.1 S29) (fun r31 S32 => bd (f_X11_enters r31.toInt64 S32) (fun r34 S35 => some (v22.1, S35)))))))) FU ((-1 : Int32), (1000000 : Int32), (0 : Int32)) S20))))))))
theorem c_X11_meets {p1 : Int32} {p2 : Int32} {S : St} {r : Int32} {S' : St} (hf : f_X11_meets p1 p2 S = some (r, S')) : zM yX11_meets cX11_meets 7 3 (some .int) [.ref 122, .int p1, .int p2] S (some (.int r)) S' := by
  refine zM_of (zpl (by decide)) (Nat.le_of_ble_eq_true rfl) rfl (fun K hK hA => ?_)
  unfold f_X11_meets at hf
  refine j_aload_n hK dX11_meets_0 0 rfl rfl ?_
  refine j_iconst hK (0 : Int32) dX11_meets_1 ic_0 ?_
  refine j_putI hK fl_X11_3 dX11_meets_2 zo_122 zf_11_0 ?_
  refine lt_S hf (fun S9 hf => ?_)
  refine j_iload_n hK dX11_meets_5 1 rfl rfl ?_
  obtain ⟨r10, S11, h12, hf⟩ := bd_J hf
  refine k_callSi hK (c_X11_isCavern h12) dX11_meets_6 ml_X11_256 ms_X11_isCavern in_X11 mc_X11_isCavern hy_X11_isCavern ⟨by decide, by decide⟩ rfl (Nat.le_of_ble_eq_true rfl) ?_
  refine j_if_eq hK 19 dX11_meets_9 (by decide) (fun hc => ?_) (fun hc => ?_)
  · replace hf := if_1 hc hf
    refine j_iconst hK (-1 : Int32) dX11_meets_19 ic_m1 ?_
    exact j_iret hK dX11_meets_20 rfl (rt_I hA hf)
  · replace hf := if_2 hc hf
    refine j_iload_n hK dX11_meets_12 2 rfl rfl ?_
    obtain ⟨r13, S14, h15, hf⟩ := bd_J hf
    refine k_callSi hK (c_X11_isCavern h15) dX11_meets_13 ml_X11_256 ms_X11_isCavern in_X11 mc_X11_isCavern hy_X11_isCavern ⟨by decide, by decide⟩ rfl (Nat.le_of_ble_eq_true rfl) ?_
    refine j_if_ne hK 21 dX11_meets_16 (by decide) (fun hc => ?_) (fun hc => ?_)
    · replace hf := if_2 hc hf
      refine j_aload_n hK dX11_meets_21 0 rfl rfl ?_
      refine j_aload_n hK dX11_meets_22 0 rfl rfl ?_
      refine j_getR hK fl_X11_31 dX11_meets_23 zo_122 zf_11_7 zr_122_7 ?_
      refine j_bipush hK (36 : Int32) dX11_meets_26 bi_36 ?_
      refine k_iald hK dX11_meets_28 zb_126 (by decide) tn_36 ?_
      obtain ⟨r16, S17, h18, hf⟩ := bd_J hf
      refine k_callVv hK (c_X11_laysFar h18) dX11_meets_29 zclX11 zo_122 ml_X11_302 mi_X11_laysFar mx_X11_laysFar in_X11 mc_X11_laysFar hy_X11_laysFar ⟨by decide, by decide⟩ rfl (Nat.le_of_ble_eq_true rfl) ?_
      refine j_aload_n hK dX11_meets_32 0 rfl rfl ?_
      refine j_pc (pc' := 33) rfl ?_
      refine j_iload_n hK dX11_meets_33 1 rfl rfl ?_
      refine j_iload_n hK dX11_meets_34 2 rfl rfl ?_
      obtain ⟨r19, S20, h21, hf⟩ := bd_J hf
      refine k_callVi hK (c_X11_areJoined h21) dX11_meets_35 zclX11 zo_122 ml_X11_294 mi_X11_areJoined mx_X11_areJoined in_X11 mc_X11_areJoined hy_X11_areJoined ⟨by decide, by decide⟩ rfl (Nat.le_of_ble_eq_true rfl) ?_
      refine j_if_ne hK 44 dX11_meets_38 (by decide) (fun hc => ?_) (fun hc => ?_)
      · replace hf := if_2 hc hf
        refine j_iconst hK (-1 : Int32) dX11_meets_44 ic_m1 ?_
        refine j_istore_n hK (L' := [(3, .int (-1 : Int32)), (0, .ref 122), (1, .int p1), (2, .int p2)]) dX11_meets_45 rfl (by decide) rfl ?_
        refine j_ldcw hK (v := (1000000 : Int32)) cn_X11_290 dX11_meets_46 ?_
        refine j_istore hK (L' := [(4, .int (1000000 : Int32)), (3, .int (-1 : Int32)), (0, .ref 122), (1, .int p1), (2, .int p2)]) dX11_meets_49 (by decide) rfl ?_
        refine j_iconst hK (0 : Int32) dX11_meets_51 ic_0 ?_
        refine j_istore hK (L' := [(5, .int (0 : Int32)), (4, .int (1000000 : Int32)), (3, .int (-1 : Int32)), (0, .ref 122), (1, .int p1), (2, .int p2)]) dX11_meets_52 (by decide) rfl ?_
        refine j_sub [3, 4, 5, 2, 1, 0] rfl ?_
        refine t_X11_meets_54 hK hA  (fun v22 S23 hf => ?_) _ _ _ hf
        refine j_aload_n hK dX11_meets_109 0 rfl rfl ?_
        refine j_iconst hK (0 : Int32) dX11_meets_110 ic_0 ?_
        refine j_putI hK fl_X11_15 dX11_meets_111 zo_122 zf_11_1 ?_
        refine lt_S hf (fun S24 hf => ?_)
        refine j_aload_n hK dX11_meets_114 0 rfl rfl ?_
        refine j_aload_n hK dX11_meets_115 0 rfl rfl ?_
        refine j_iload_n hK dX11_meets_116 1 rfl rfl ?_
        refine j_iload_n hK dX11_meets_117 3 rfl rfl ?_
        refine j_pc (pc' := 118) rfl ?_
        obtain ⟨r25, S26, h27, hf⟩ := bd_J hf
        refine k_callVi hK (c_X11_farOf h27) dX11_meets_118 zclX11 zo_122 ml_X11_291 mi_X11_farOf mx_X11_farOf in_X11 mc_X11_farOf hy_X11_farOf ⟨by decide, by decide⟩ rfl (Nat.le_of_ble_eq_true rfl) ?_
        refine j_i2l hK dX11_meets_121 ?_
        obtain ⟨r28, S29, h30, hf⟩ := bd_J hf
        refine k_callVv hK (c_X11_enters h30) dX11_meets_122 zclX11 zo_122 ml_X11_340 mi_X11_enters mx_X11_enters in_X11 mc_X11_enters hy_X11_enters ⟨by decide, by decide⟩ rfl (Nat.le_of_ble_eq_true rfl) ?_
        refine j_aload_n hK dX11_meets_125 0 rfl rfl ?_
        refine j_aload_n hK dX11_meets_126 0 rfl rfl ?_
        refine j_iload_n hK dX11_meets_127 2 rfl rfl ?_
        refine j_iload_n hK dX11_meets_128 3 rfl rfl ?_
        obtain ⟨r31, S32, h33, hf⟩ := bd_J hf
        refine k_callVi hK (c_X11_farOf h33) dX11_meets_129 zclX11 zo_122 ml_X11_291 mi_X11_farOf mx_X11_farOf in_X11 mc_X11_farOf hy_X11_farOf ⟨by decide, by decide⟩ rfl (Nat.le_of_ble_eq_true rfl) ?_
        refine j_pc (pc' := 132) rfl ?_
        refine j_i2l hK dX11_meets_132 ?_
        obtain ⟨r34, S35, h36, hf⟩ := bd_J hf
        refine k_callVv hK (c_X11_enters h36) dX11_meets_133 zclX11 zo_122 ml_X11_340 mi_X11_enters mx_X11_enters in_X11 mc_X11_enters hy_X11_enters ⟨by decide, by decide⟩ rfl (Nat.le_of_ble_eq_true rfl) ?_
        refine j_iload_n hK dX11_meets_136 3 rfl rfl ?_
        exact j_iret hK dX11_meets_137 rfl (rt_I hA hf)
      · replace hf := if_1 hc hf
        refine j_bipush hK (-2 : Int32) dX11_meets_41 bi_m2 ?_
        exact j_iret hK dX11_meets_43 rfl (rt_I hA hf)
    · replace hf := if_1 hc hf
      refine j_iconst hK (-1 : Int32) dX11_meets_19 ic_m1 ?_
      exact j_iret hK dX11_meets_20 rfl (rt_I hA hf)
def f_X11_heart_83 (x2 : Int32) (s0 : Int32) (k e : Int32 × Int32 → St → Option (Int32 × St)) (S : St) : Option (Int32 × St) := k (s0, (x2 + (1 : Int32))) S
theorem t_X11_heart_83 {K : CT} (hK : KO K cX11_heart RX11 4 4 (some .int)) {r : Int32} {S' : St} (hA : zans K (some (.int r), S')) {x2 : Int32} {s0 : Int32} {k e : Int32 × Int32 → St → Option (Int32 × St)} (hk : ∀ (v : Int32 × Int32) (S : St), k v S = some (r, S') → J K 33 [(0, .ref 122), (1, .int v.1), (2, .int v.2)] [] S) (he : ∀ (v : Int32 × Int32) (S : St), e v S = some (r, S') → J K 90 [(0, .ref 122), (1, .int v.1)] [] S) {S : St} (hf : f_X11_heart_83 x2 s0 k e S = some (r, S')) : J K 83 [(0, .ref 122), (2, .int x2)] [.int s0] S := by
  unfold f_X11_heart_83 at hf
  refine j_istore_n hK (L' := [(1, .int s0), (0, .ref 122), (2, .int x2)]) dX11_heart_83 rfl (by decide) rfl ?_
  refine j_iinc hK (L' := [(2, .int (x2 + (1 : Int32))), (1, .int s0), (0, .ref 122)]) dX11_heart_84 2 rfl (congrArg (fun y => x2 + y) ic_1) (by decide) rfl ?_
  refine j_goto hK 33 dX11_heart_87 (by decide) ?_
  refine j_sub [2, 1, 0] rfl ?_
  exact hk _ _ hf
def f_X11_heart_82 (x1 : Int32) (x2 : Int32) (k e : Int32 × Int32 → St → Option (Int32 × St)) (S : St) : Option (Int32 × St) := f_X11_heart_83 x2 x1 k e S
theorem t_X11_heart_82 {K : CT} (hK : KO K cX11_heart RX11 4 4 (some .int)) {r : Int32} {S' : St} (hA : zans K (some (.int r), S')) {x1 : Int32} {x2 : Int32} {k e : Int32 × Int32 → St → Option (Int32 × St)} (hk : ∀ (v : Int32 × Int32) (S : St), k v S = some (r, S') → J K 33 [(0, .ref 122), (1, .int v.1), (2, .int v.2)] [] S) (he : ∀ (v : Int32 × Int32) (S : St), e v S = some (r, S') → J K 90 [(0, .ref 122), (1, .int v.1)] [] S) {S : St} (hf : f_X11_heart_82 x1 x2 k e S = some (r, S')) : J K 82 [(0, .ref 122), (1, .int x1), (2, .int x2)] [] S := by
  unfold f_X11_heart_82 at hf
  refine j_iload_n hK dX11_heart_82 1 rfl rfl ?_
  refine j_sub [0, 2] rfl ?_
  exact t_X11_heart_83 hK hA hk he hf
def f_X11_heart_78 (x2 : Int32) (k e : Int32 × Int32 → St → Option (Int32 × St)) (S : St) : Option (Int32 × St) := f_X11_heart_83 x2 x2 k e S
theorem t_X11_heart_78 {K : CT} (hK : KO K cX11_heart RX11 4 4 (some .int)) {r : Int32} {S' : St} (hA : zans K (some (.int r), S')) {x2 : Int32} {k e : Int32 × Int32 → St → Option (Int32 × St)} (hk : ∀ (v : Int32 × Int32) (S : St), k v S = some (r, S') → J K 33 [(0, .ref 122), (1, .int v.1), (2, .int v.2)] [] S) (he : ∀ (v : Int32 × Int32) (S : St), e v S = some (r, S') → J K 90 [(0, .ref 122), (1, .int v.1)] [] S) {S : St} (hf : f_X11_heart_78 x2 k e S = some (r, S')) : J K 78 [(0, .ref 122), (2, .int x2)] [] S := by
  unfold f_X11_heart_78 at hf
  refine j_iload_n hK dX11_heart_78 1 rfl rfl ?_
  refine j_goto hK 83 dX11_heart_79 (by decide) ?_
  exact t_X11_heart_83 hK hA hk he hf
def f_X11_heart_33b (e : Int32 × Int32 → St → Option (Int32 × St)) (k : Int32 × Int32 → St → Option (Int32 × St)) (v : Int32 × Int32) (S : St) : Option (Int32 × St) := (if (8 : Int32) ≤ v.2 then e (v.1, v.2) S else bd (f_X11_joinedTo v.2 S) (fun r1 S2 => bd (f_J6_bitCount_0f7a4 r1 S2) (fun r4 S5 => bd (f_X11_joinedTo v.1 S5) (fun r7 S8 => bd (f_J6_bitCount_0f7a4 r7 S8) (fun r10 S11 => lt (r4 - r10) (fun y13 => (if 0 < y13 then f_X11_heart_78 v.2 k e S11 else (if y13 = 0 then bd (f_X11_farthest v.2 S11) (fun r14 S15 => bd (f_X11_farthest v.1 S15) (fun r17 S18 => (if r17 ≤ r14 then f_X11_heart_82 v.1 v.2 k e S18 else f_X11_heart_78 v.2 k e S18))) else f_X11_heart_82 v.1 v.2 k e S11))))))))
theorem t_X11_heart_33 {K : CT} (hK : KO K cX11_heart RX11 4 4 (some .int)) {r : Int32} {S' : St} (hA : zans K (some (.int r), S')) {e : Int32 × Int32 → St → Option (Int32 × St)} (he : ∀ (v : Int32 × Int32) (S : St), e v S = some (r, S') → J K 90 [(0, .ref 122), (1, .int v.1)] [] S) : ∀ (n : Nat) (v : Int32 × Int32) (S : St), lp (f_X11_heart_33b  e) n v S = some (r, S') → J K 33 [(0, .ref 122), (1, .int v.1), (2, .int v.2)] [] S :=
  lp_J (P := fun (v : Int32 × Int32) (S : St) => J K 33 [(0, .ref 122), (1, .int v.1), (2, .int v.2)] [] S) (fun k hk v S hf => by
    unfold f_X11_heart_33b at hf
    refine j_iload_n hK dX11_heart_33 2 rfl rfl ?_
    refine j_bipush hK (8 : Int32) dX11_heart_34 bi_8 ?_
    refine j_icmp_ge hK 90 dX11_heart_36 (by decide) (fun hc => ?_) (fun hc => ?_)
    · replace hf := if_1 hc hf
      refine j_sub [0, 1] rfl ?_
      exact he _ _ hf
    · replace hf := if_2 hc hf
      refine j_aload_n hK dX11_heart_39 0 rfl rfl ?_
      refine j_iload_n hK dX11_heart_40 2 rfl rfl ?_
      obtain ⟨r1, S2, h3, hf⟩ := bd_J hf
      refine k_callVi hK (c_X11_joinedTo h3) dX11_heart_41 zclX11 zo_122 ml_X11_308 mi_X11_joinedTo mx_X11_joinedTo in_X11 mc_X11_joinedTo hy_X11_joinedTo ⟨by decide, by decide⟩ rfl (Nat.le_of_ble_eq_true rfl) ?_
      obtain ⟨r4, S5, h6, hf⟩ := bd_J hf
      refine k_callSi hK (c_J6_bitCount_0f7a4 h6) dX11_heart_44 ml_X11_355 ms_J6_bitCount_0f7a4 in_J6 mc_J6_bitCount_0f7a4 hy_J6_bitCount_0f7a4 ⟨by decide, by decide⟩ rfl (Nat.le_of_ble_eq_true rfl) ?_
      refine j_aload_n hK dX11_heart_47 0 rfl rfl ?_
      refine j_iload_n hK dX11_heart_48 1 rfl rfl ?_
      obtain ⟨r7, S8, h9, hf⟩ := bd_J hf
      refine k_callVi hK (c_X11_joinedTo h9) dX11_heart_49 zclX11 zo_122 ml_X11_308 mi_X11_joinedTo mx_X11_joinedTo in_X11 mc_X11_joinedTo hy_X11_joinedTo ⟨by decide, by decide⟩ rfl (Nat.le_of_ble_eq_true rfl) ?_
      refine j_pc (pc' := 52) rfl ?_
      obtain ⟨r10, S11, h12, hf⟩ := bd_J hf
      refine k_callSi hK (c_J6_bitCount_0f7a4 h12) dX11_heart_52 ml_X11_355 ms_J6_bitCount_0f7a4 in_J6 mc_J6_bitCount_0f7a4 hy_J6_bitCount_0f7a4 ⟨by decide, by decide⟩ rfl (Nat.le_of_ble_eq_true rfl) ?_
      refine j_isub hK dX11_heart_55 ?_
      refine lt_I hf (fun y13 hf => ?_)
      refine j_istore_n hK (L' := [(3, .int y13), (0, .ref 122), (1, .int v.1), (2, .int v.2)]) dX11_heart_56 rfl (by decide) rfl ?_
      refine j_iload_n hK dX11_heart_57 0 rfl rfl ?_
      refine j_if_gt hK 78 dX11_heart_58 (by decide) (fun hc => ?_) (fun hc => ?_)
      · replace hf := if_1 hc hf
        refine j_sub [1, 3] rfl ?_
        exact t_X11_heart_78 hK hA hk he hf
      · replace hf := if_2 hc hf
        refine j_iload_n hK dX11_heart_61 0 rfl rfl ?_
        refine j_if_ne hK 82 dX11_heart_62 (by decide) (fun hc => ?_) (fun hc => ?_)
        · replace hf := if_2 hc hf
          refine j_sub [1, 2, 3] rfl ?_
          exact t_X11_heart_82 hK hA hk he hf
        · replace hf := if_1 hc hf
          refine j_aload_n hK dX11_heart_65 1 rfl rfl ?_
          refine j_iload_n hK dX11_heart_66 3 rfl rfl ?_
          obtain ⟨r14, S15, h16, hf⟩ := bd_J hf
          refine k_callVi hK (c_X11_farthest h16) dX11_heart_67 zclX11 zo_122 ml_X11_311 mi_X11_farthest mx_X11_farthest in_X11 mc_X11_farthest hy_X11_farthest ⟨by decide, by decide⟩ rfl (Nat.le_of_ble_eq_true rfl) ?_
          refine j_aload_n hK dX11_heart_70 1 rfl rfl ?_
          refine j_iload_n hK dX11_heart_71 2 rfl rfl ?_
          obtain ⟨r17, S18, h19, hf⟩ := bd_J hf
          refine k_callVi hK (c_X11_farthest h19) dX11_heart_72 zclX11 zo_122 ml_X11_311 mi_X11_farthest mx_X11_farthest in_X11 mc_X11_farthest hy_X11_farthest ⟨by decide, by decide⟩ rfl (Nat.le_of_ble_eq_true rfl) ?_
          refine j_icmp_ge hK 82 dX11_heart_75 (by decide) (fun hc => ?_) (fun hc => ?_)
          · replace hf := if_1 hc hf
            refine j_sub [1, 2, 3] rfl ?_
            exact t_X11_heart_82 hK hA hk he hf
          · replace hf := if_2 hc hf
            refine j_sub [1, 3] rfl ?_
            exact t_X11_heart_78 hK hA hk he hf)
def f_X11_heart (S : St) : Option (Int32 × St) := lt (sI S 122 0 (0 : Int32)) (fun S20 => (if (gI S20 126 36) = 0 then some ((-2 : Int32), S20) else bd (f_X11_laysFar (gI S20 126 36) S20) (fun r21 S22 => lp (f_X11_heart_33b  (fun v24 S25 => lt (sI S25 122 1 (0 : Int32)) (fun S26 => bd (f_X11_farthest v24.1 S26) (fun r27 S28 => bd (f_X11_enters r27.toInt64 S28) (fun r30 S31 => bd (f_X11_joinedTo v24.1 S31) (fun r33 S34 => bd (f_J6_bitCount_0f7a4 r33 S34) (fun r36 S37 => bd (f_X11_enters r36.toInt64 S37) (fun r39 S40 => some (v24.1, S40))))))))) FU ((0 : Int32), (1 : Int32)) S22)))
theorem c_X11_heart {S : St} {r : Int32} {S' : St} (hf : f_X11_heart S = some (r, S')) : zM yX11_heart cX11_heart 4 4 (some .int) [.ref 122] S (some (.int r)) S' := by
  refine zM_of (zpl (by decide)) (Nat.le_of_ble_eq_true rfl) rfl (fun K hK hA => ?_)
  unfold f_X11_heart at hf
  refine j_aload_n hK dX11_heart_0 0 rfl rfl ?_
  refine j_iconst hK (0 : Int32) dX11_heart_1 ic_0 ?_
  refine j_putI hK fl_X11_3 dX11_heart_2 zo_122 zf_11_0 ?_
  refine lt_S hf (fun S20 hf => ?_)
  refine j_aload_n hK dX11_heart_5 0 rfl rfl ?_
  refine j_getR hK fl_X11_31 dX11_heart_6 zo_122 zf_11_7 zr_122_7 ?_
  refine j_bipush hK (36 : Int32) dX11_heart_9 bi_36 ?_
  refine k_iald hK dX11_heart_11 zb_126 (by decide) tn_36 ?_
  refine j_if_ne hK 18 dX11_heart_12 (by decide) (fun hc => ?_) (fun hc => ?_)
  · replace hf := if_2 hc hf
    refine j_aload_n hK dX11_heart_18 0 rfl rfl ?_
    refine j_aload_n hK dX11_heart_19 0 rfl rfl ?_
    refine j_getR hK fl_X11_31 dX11_heart_20 zo_122 zf_11_7 zr_122_7 ?_
    refine j_bipush hK (36 : Int32) dX11_heart_23 bi_36 ?_
    refine k_iald hK dX11_heart_25 zb_126 (by decide) tn_36 ?_
    obtain ⟨r21, S22, h23, hf⟩ := bd_J hf
    refine k_callVv hK (c_X11_laysFar h23) dX11_heart_26 zclX11 zo_122 ml_X11_302 mi_X11_laysFar mx_X11_laysFar in_X11 mc_X11_laysFar hy_X11_laysFar ⟨by decide, by decide⟩ rfl (Nat.le_of_ble_eq_true rfl) ?_
    refine j_iconst hK (0 : Int32) dX11_heart_29 ic_0 ?_
    refine j_pc (pc' := 30) rfl ?_
    refine j_istore_n hK (L' := [(1, .int (0 : Int32)), (0, .ref 122)]) dX11_heart_30 rfl (by decide) rfl ?_
    refine j_iconst hK (1 : Int32) dX11_heart_31 ic_1 ?_
    refine j_istore_n hK (L' := [(2, .int (1 : Int32)), (1, .int (0 : Int32)), (0, .ref 122)]) dX11_heart_32 rfl (by decide) rfl ?_
    refine j_sub [2, 1, 0] rfl ?_
    refine t_X11_heart_33 hK hA  (fun v24 S25 hf => ?_) _ _ _ hf
    refine j_aload_n hK dX11_heart_90 0 rfl rfl ?_
    refine j_iconst hK (0 : Int32) dX11_heart_91 ic_0 ?_
    refine j_putI hK fl_X11_15 dX11_heart_92 zo_122 zf_11_1 ?_
    refine lt_S hf (fun S26 hf => ?_)
    refine j_aload_n hK dX11_heart_95 0 rfl rfl ?_
    refine j_aload_n hK dX11_heart_96 0 rfl rfl ?_
    refine j_iload_n hK dX11_heart_97 1 rfl rfl ?_
    obtain ⟨r27, S28, h29, hf⟩ := bd_J hf
    refine k_callVi hK (c_X11_farthest h29) dX11_heart_98 zclX11 zo_122 ml_X11_311 mi_X11_farthest mx_X11_farthest in_X11 mc_X11_farthest hy_X11_farthest ⟨by decide, by decide⟩ rfl (Nat.le_of_ble_eq_true rfl) ?_
    refine j_pc (pc' := 101) rfl ?_
    refine j_i2l hK dX11_heart_101 ?_
    obtain ⟨r30, S31, h32, hf⟩ := bd_J hf
    refine k_callVv hK (c_X11_enters h32) dX11_heart_102 zclX11 zo_122 ml_X11_340 mi_X11_enters mx_X11_enters in_X11 mc_X11_enters hy_X11_enters ⟨by decide, by decide⟩ rfl (Nat.le_of_ble_eq_true rfl) ?_
    refine j_aload_n hK dX11_heart_105 0 rfl rfl ?_
    refine j_aload_n hK dX11_heart_106 0 rfl rfl ?_
    refine j_iload_n hK dX11_heart_107 1 rfl rfl ?_
    obtain ⟨r33, S34, h35, hf⟩ := bd_J hf
    refine k_callVi hK (c_X11_joinedTo h35) dX11_heart_108 zclX11 zo_122 ml_X11_308 mi_X11_joinedTo mx_X11_joinedTo in_X11 mc_X11_joinedTo hy_X11_joinedTo ⟨by decide, by decide⟩ rfl (Nat.le_of_ble_eq_true rfl) ?_
    obtain ⟨r36, S37, h38, hf⟩ := bd_J hf
    refine k_callSi hK (c_J6_bitCount_0f7a4 h38) dX11_heart_111 ml_X11_355 ms_J6_bitCount_0f7a4 in_J6 mc_J6_bitCount_0f7a4 hy_J6_bitCount_0f7a4 ⟨by decide, by decide⟩ rfl (Nat.le_of_ble_eq_true rfl) ?_
    refine j_i2l hK dX11_heart_114 ?_
    refine j_pc (pc' := 115) rfl ?_
    obtain ⟨r39, S40, h41, hf⟩ := bd_J hf
    refine k_callVv hK (c_X11_enters h41) dX11_heart_115 zclX11 zo_122 ml_X11_340 mi_X11_enters mx_X11_enters in_X11 mc_X11_enters hy_X11_enters ⟨by decide, by decide⟩ rfl (Nat.le_of_ble_eq_true rfl) ?_
    refine j_iload_n hK dX11_heart_118 1 rfl rfl ?_
    exact j_iret hK dX11_heart_119 rfl (rt_I hA hf)
  · replace hf := if_1 hc hf
    refine j_bipush hK (-2 : Int32) dX11_heart_15 bi_m2 ?_
    exact j_iret hK dX11_heart_17 rfl (rt_I hA hf)
def f_X11_ropes_117 (x1 : Int32) (x2 : Int32) (x3 : Int32) (x4 : Int32) (k e : Int32 × Int32 × Int32 → St → Option (Int32 × St)) (S : St) : Option (Int32 × St) := k (x1, x2, (x4 + (1 : Int32))) S
theorem t_X11_ropes_117 {K : CT} (hK : KO K cX11_ropes RX11 6 3 (some .int)) {r : Int32} {S' : St} (hA : zans K (some (.int r), S')) {x1 : Int32} {x2 : Int32} {x3 : Int32} {x4 : Int32} {k e : Int32 × Int32 × Int32 → St → Option (Int32 × St)} (hk : ∀ (v : Int32 × Int32 × Int32) (S : St), k v S = some (r, S') → J K 20 [(0, .ref 122), (1, .int v.1), (2, .int v.2.1), (3, .int x3), (4, .int v.2.2)] [] S) (he : ∀ (v : Int32 × Int32 × Int32) (S : St), e v S = some (r, S') → J K 123 [(0, .ref 122), (1, .int v.1), (2, .int v.2.1), (3, .int x3)] [] S) {S : St} (hf : f_X11_ropes_117 x1 x2 x3 x4 k e S = some (r, S')) : J K 117 [(0, .ref 122), (1, .int x1), (2, .int x2), (3, .int x3), (4, .int x4)] [] S := by
  unfold f_X11_ropes_117 at hf
  refine j_iinc hK (L' := [(4, .int (x4 + (1 : Int32))), (0, .ref 122), (1, .int x1), (2, .int x2), (3, .int x3)]) dX11_ropes_117 4 rfl (congrArg (fun y => x4 + y) ic_1) (by decide) rfl ?_
  refine j_goto hK 20 dX11_ropes_120 (by decide) ?_
  refine j_sub [1, 2, 3, 4, 0] rfl ?_
  exact hk _ _ hf
def f_X11_ropes_115 (x1 : Int32) (x3 : Int32) (x4 : Int32) (s0 : Int32) (s1 : Int32) (k e : Int32 × Int32 × Int32 → St → Option (Int32 × St)) (S : St) : Option (Int32 × St) := lt (s0 + s1) (fun y1 => f_X11_ropes_117 x1 y1 x3 x4 k e S)
theorem t_X11_ropes_115 {K : CT} (hK : KO K cX11_ropes RX11 6 3 (some .int)) {r : Int32} {S' : St} (hA : zans K (some (.int r), S')) {x1 : Int32} {x3 : Int32} {x4 : Int32} {s0 : Int32} {s1 : Int32} {k e : Int32 × Int32 × Int32 → St → Option (Int32 × St)} (hk : ∀ (v : Int32 × Int32 × Int32) (S : St), k v S = some (r, S') → J K 20 [(0, .ref 122), (1, .int v.1), (2, .int v.2.1), (3, .int x3), (4, .int v.2.2)] [] S) (he : ∀ (v : Int32 × Int32 × Int32) (S : St), e v S = some (r, S') → J K 123 [(0, .ref 122), (1, .int v.1), (2, .int v.2.1), (3, .int x3)] [] S) {S : St} (hf : f_X11_ropes_115 x1 x3 x4 s0 s1 k e S = some (r, S')) : J K 115 [(0, .ref 122), (1, .int x1), (3, .int x3), (4, .int x4)] [.int s1, .int s0] S := by
  unfold f_X11_ropes_115 at hf
  refine j_iadd hK dX11_ropes_115 ?_
  refine lt_I hf (fun y1 hf => ?_)
  refine j_istore_n hK (L' := [(2, .int y1), (0, .ref 122), (1, .int x1), (3, .int x3), (4, .int x4)]) dX11_ropes_116 rfl (by decide) rfl ?_
  refine j_sub [1, 2, 0, 3, 4] rfl ?_
  exact t_X11_ropes_117 hK hA hk he hf
def f_X11_ropes_102 (x2 : Int32) (x3 : Int32) (x4 : Int32) (x5 : Int32) (s0 : Int32) (s1 : Int32) (k e : Int32 × Int32 × Int32 → St → Option (Int32 × St)) (S : St) : Option (Int32 × St) := lt (s0 ||| s1) (fun y2 => (if x5 = 0 then f_X11_ropes_115 y2 x3 x4 x2 (0 : Int32) k e S else f_X11_ropes_115 y2 x3 x4 x2 x3 k e S))
theorem t_X11_ropes_102 {K : CT} (hK : KO K cX11_ropes RX11 6 3 (some .int)) {r : Int32} {S' : St} (hA : zans K (some (.int r), S')) {x2 : Int32} {x3 : Int32} {x4 : Int32} {x5 : Int32} {s0 : Int32} {s1 : Int32} {k e : Int32 × Int32 × Int32 → St → Option (Int32 × St)} (hk : ∀ (v : Int32 × Int32 × Int32) (S : St), k v S = some (r, S') → J K 20 [(0, .ref 122), (1, .int v.1), (2, .int v.2.1), (3, .int x3), (4, .int v.2.2)] [] S) (he : ∀ (v : Int32 × Int32 × Int32) (S : St), e v S = some (r, S') → J K 123 [(0, .ref 122), (1, .int v.1), (2, .int v.2.1), (3, .int x3)] [] S) {S : St} (hf : f_X11_ropes_102 x2 x3 x4 x5 s0 s1 k e S = some (r, S')) : J K 102 [(0, .ref 122), (2, .int x2), (3, .int x3), (4, .int x4), (5, .int x5)] [.int s1, .int s0] S := by
  unfold f_X11_ropes_102 at hf
  refine j_ior hK dX11_ropes_102 ?_
  refine lt_I hf (fun y2 hf => ?_)
  refine j_istore_n hK (L' := [(1, .int y2), (0, .ref 122), (2, .int x2), (3, .int x3), (4, .int x4), (5, .int x5)]) dX11_ropes_103 rfl (by decide) rfl ?_
  refine j_iload_n hK dX11_ropes_104 2 rfl rfl ?_
  refine j_iload hK dX11_ropes_105 5 rfl ?_
  refine j_if_eq hK 114 dX11_ropes_107 (by decide) (fun hc => ?_) (fun hc => ?_)
  · replace hf := if_1 hc hf
    refine j_iconst hK (0 : Int32) dX11_ropes_114 ic_0 ?_
    refine j_sub [1, 0, 3, 4] rfl ?_
    exact t_X11_ropes_115 hK hA hk he hf
  · replace hf := if_2 hc hf
    refine j_iload_n hK dX11_ropes_110 3 rfl rfl ?_
    refine j_goto hK 115 dX11_ropes_111 (by decide) ?_
    refine j_sub [1, 0, 3, 4] rfl ?_
    exact t_X11_ropes_115 hK hA hk he hf
def f_X11_ropes_86 (x1 : Int32) (x2 : Int32) (x3 : Int32) (x4 : Int32) (s0 : Int32) (k e : Int32 × Int32 × Int32 → St → Option (Int32 × St)) (S : St) : Option (Int32 × St) := (if s0 = 0 then f_X11_ropes_102 x2 x3 x4 s0 x1 (0 : Int32) k e S else f_X11_ropes_102 x2 x3 x4 s0 x1 ((1 : Int32) <<< (x4 &&& 31)) k e S)
theorem t_X11_ropes_86 {K : CT} (hK : KO K cX11_ropes RX11 6 3 (some .int)) {r : Int32} {S' : St} (hA : zans K (some (.int r), S')) {x1 : Int32} {x2 : Int32} {x3 : Int32} {x4 : Int32} {s0 : Int32} {k e : Int32 × Int32 × Int32 → St → Option (Int32 × St)} (hk : ∀ (v : Int32 × Int32 × Int32) (S : St), k v S = some (r, S') → J K 20 [(0, .ref 122), (1, .int v.1), (2, .int v.2.1), (3, .int x3), (4, .int v.2.2)] [] S) (he : ∀ (v : Int32 × Int32 × Int32) (S : St), e v S = some (r, S') → J K 123 [(0, .ref 122), (1, .int v.1), (2, .int v.2.1), (3, .int x3)] [] S) {S : St} (hf : f_X11_ropes_86 x1 x2 x3 x4 s0 k e S = some (r, S')) : J K 86 [(0, .ref 122), (1, .int x1), (2, .int x2), (3, .int x3), (4, .int x4)] [.int s0] S := by
  unfold f_X11_ropes_86 at hf
  refine j_istore hK (L' := [(5, .int s0), (0, .ref 122), (1, .int x1), (2, .int x2), (3, .int x3), (4, .int x4)]) dX11_ropes_86 (by decide) rfl ?_
  refine j_iload_n hK dX11_ropes_88 2 rfl rfl ?_
  refine j_iload hK dX11_ropes_89 0 rfl ?_
  refine j_if_eq hK 101 dX11_ropes_91 (by decide) (fun hc => ?_) (fun hc => ?_)
  · replace hf := if_1 hc hf
    refine j_iconst hK (0 : Int32) dX11_ropes_101 ic_0 ?_
    refine j_sub [1, 3, 4, 5, 0] rfl ?_
    exact t_X11_ropes_102 hK hA hk he hf
  · replace hf := if_2 hc hf
    refine j_iconst hK (1 : Int32) dX11_ropes_94 ic_1 ?_
    refine j_iload hK dX11_ropes_95 5 rfl ?_
    refine j_ishl hK dX11_ropes_97 ?_
    refine j_goto hK 102 dX11_ropes_98 (by decide) ?_
    refine j_sub [1, 3, 4, 5, 0] rfl ?_
    exact t_X11_ropes_102 hK hA hk he hf
def f_X11_ropes_20b (x3 : Int32) (e : Int32 × Int32 × Int32 → St → Option (Int32 × St)) (k : Int32 × Int32 × Int32 → St → Option (Int32 × St)) (v : Int32 × Int32 × Int32) (S : St) : Option (Int32 × St) := (if (gI S 122 3) ≤ v.2.2 then e (v.1, v.2.1, v.2.2) S else bd (f_X11_has (gI S 126 36) v.2.2 S) (fun r3 S4 => (if r3 = 0 then f_X11_ropes_117 v.1 v.2.1 x3 v.2.2 k e S4 else if inb v.2.2 39 then (if (gI S4 126 v.2.2.toNatClampNeg) = x3 then bd (f_X11_laysFar v.1 S4) (fun r7 S8 => if inb v.2.2 12 then if inb v.2.2 12 then bd (f_X11_areJoined (gI S8 124 v.2.2.toNatClampNeg) (gI S8 125 v.2.2.toNatClampNeg) S8) (fun r12 S13 => (if r12 = 0 then f_X11_ropes_86 v.1 v.2.1 x3 v.2.2 (1 : Int32) k e S13 else f_X11_ropes_86 v.1 v.2.1 x3 v.2.2 (0 : Int32) k e S13)) else none else none) else f_X11_ropes_117 v.1 v.2.1 x3 v.2.2 k e S4) else none)))
theorem t_X11_ropes_20 {K : CT} (hK : KO K cX11_ropes RX11 6 3 (some .int)) {r : Int32} {S' : St} (hA : zans K (some (.int r), S')) {x3 : Int32} {e : Int32 × Int32 × Int32 → St → Option (Int32 × St)} (he : ∀ (v : Int32 × Int32 × Int32) (S : St), e v S = some (r, S') → J K 123 [(0, .ref 122), (1, .int v.1), (2, .int v.2.1), (3, .int x3)] [] S) : ∀ (n : Nat) (v : Int32 × Int32 × Int32) (S : St), lp (f_X11_ropes_20b x3 e) n v S = some (r, S') → J K 20 [(0, .ref 122), (1, .int v.1), (2, .int v.2.1), (3, .int x3), (4, .int v.2.2)] [] S :=
  lp_J (P := fun (v : Int32 × Int32 × Int32) (S : St) => J K 20 [(0, .ref 122), (1, .int v.1), (2, .int v.2.1), (3, .int x3), (4, .int v.2.2)] [] S) (fun k hk v S hf => by
    unfold f_X11_ropes_20b at hf
    refine j_iload hK dX11_ropes_20 4 rfl ?_
    refine j_aload_n hK dX11_ropes_22 0 rfl rfl ?_
    refine j_getI hK fl_X11_128 dX11_ropes_23 zo_122 zf_11_3 ?_
    refine j_icmp_ge hK 123 dX11_ropes_26 (by decide) (fun hc => ?_) (fun hc => ?_)
    · replace hf := if_1 hc hf
      refine j_sub [0, 1, 2, 3] rfl ?_
      exact he _ _ hf
    · replace hf := if_2 hc hf
      refine j_aload_n hK dX11_ropes_29 0 rfl rfl ?_
      refine j_getR hK fl_X11_31 dX11_ropes_30 zo_122 zf_11_7 zr_122_7 ?_
      refine j_bipush hK (36 : Int32) dX11_ropes_33 bi_36 ?_
      refine k_iald hK dX11_ropes_35 zb_126 (by decide) tn_36 ?_
      refine j_iload hK dX11_ropes_36 4 rfl ?_
      obtain ⟨r3, S4, h5, hf⟩ := bd_J hf
      refine k_callSi hK (c_X11_has h5) dX11_ropes_38 ml_X11_262 ms_X11_has in_X11 mc_X11_has hy_X11_has ⟨by decide, by decide⟩ rfl (Nat.le_of_ble_eq_true rfl) ?_
      refine j_if_eq hK 117 dX11_ropes_41 (by decide) (fun hc => ?_) (fun hc => ?_)
      · replace hf := if_1 hc hf
        exact t_X11_ropes_117 hK hA hk he hf
      · replace hf := if_2 hc hf
        refine j_aload_n hK dX11_ropes_44 0 rfl rfl ?_
        refine j_getR hK fl_X11_31 dX11_ropes_45 zo_122 zf_11_7 zr_122_7 ?_
        refine j_iload hK dX11_ropes_48 4 rfl ?_
        obtain ⟨hi6, hf⟩ := gd hf
        refine k_iald hK dX11_ropes_50 zb_126 hi6 rfl ?_
        refine j_iload_n hK dX11_ropes_51 3 rfl rfl ?_
        refine j_icmp_ne hK 117 dX11_ropes_52 (by decide) (fun hc => ?_) (fun hc => ?_)
        · replace hf := if_2 hc hf
          exact t_X11_ropes_117 hK hA hk he hf
        · replace hf := if_1 hc hf
          refine j_aload_n hK dX11_ropes_55 0 rfl rfl ?_
          refine j_iload_n hK dX11_ropes_56 1 rfl rfl ?_
          obtain ⟨r7, S8, h9, hf⟩ := bd_J hf
          refine k_callVv hK (c_X11_laysFar h9) dX11_ropes_57 zclX11 zo_122 ml_X11_302 mi_X11_laysFar mx_X11_laysFar in_X11 mc_X11_laysFar hy_X11_laysFar ⟨by decide, by decide⟩ rfl (Nat.le_of_ble_eq_true rfl) ?_
          refine j_aload_n hK dX11_ropes_60 0 rfl rfl ?_
          refine j_aload_n hK dX11_ropes_61 0 rfl rfl ?_
          refine j_getR hK fl_X11_24 dX11_ropes_62 zo_122 zf_11_5 zr_122_5 ?_
          refine j_iload hK dX11_ropes_65 4 rfl ?_
          refine j_pc (pc' := 67) rfl ?_
          obtain ⟨hi10, hf⟩ := gd hf
          refine k_iald hK dX11_ropes_67 zb_124 hi10 rfl ?_
          refine j_aload_n hK dX11_ropes_68 0 rfl rfl ?_
          refine j_getR hK fl_X11_28 dX11_ropes_69 zo_122 zf_11_6 zr_122_6 ?_
          refine j_iload hK dX11_ropes_72 4 rfl ?_
          obtain ⟨hi11, hf⟩ := gd hf
          refine k_iald hK dX11_ropes_74 zb_125 hi11 rfl ?_
          obtain ⟨r12, S13, h14, hf⟩ := bd_J hf
          refine k_callVi hK (c_X11_areJoined h14) dX11_ropes_75 zclX11 zo_122 ml_X11_294 mi_X11_areJoined mx_X11_areJoined in_X11 mc_X11_areJoined hy_X11_areJoined ⟨by decide, by decide⟩ rfl (Nat.le_of_ble_eq_true rfl) ?_
          refine j_if_ne hK 85 dX11_ropes_78 (by decide) (fun hc => ?_) (fun hc => ?_)
          · replace hf := if_2 hc hf
            refine j_iconst hK (0 : Int32) dX11_ropes_85 ic_0 ?_
            exact t_X11_ropes_86 hK hA hk he hf
          · replace hf := if_1 hc hf
            refine j_iconst hK (1 : Int32) dX11_ropes_81 ic_1 ?_
            refine j_goto hK 86 dX11_ropes_82 (by decide) ?_
            exact t_X11_ropes_86 hK hA hk he hf)
def f_X11_ropes_11b (e : Int32 × Int32 × Int32 → St → Option (Int32 × St)) (k : Int32 × Int32 × Int32 → St → Option (Int32 × St)) (v : Int32 × Int32 × Int32) (S : St) : Option (Int32 × St) := (if (9 : Int32) < v.2.2 then e (v.1, v.2.1, v.2.2) S else lp (f_X11_ropes_20b v.2.2 (fun v15 S16 => k (v15.1, v15.2.1, (v.2.2 + (1 : Int32))) S16)) FU (v.1, v.2.1, (0 : Int32)) S)
theorem t_X11_ropes_11 {K : CT} (hK : KO K cX11_ropes RX11 6 3 (some .int)) {r : Int32} {S' : St} (hA : zans K (some (.int r), S')) {e : Int32 × Int32 × Int32 → St → Option (Int32 × St)} (he : ∀ (v : Int32 × Int32 × Int32) (S : St), e v S = some (r, S') → J K 129 [(0, .ref 122), (1, .int v.1), (2, .int v.2.1)] [] S) : ∀ (n : Nat) (v : Int32 × Int32 × Int32) (S : St), lp (f_X11_ropes_11b  e) n v S = some (r, S') → J K 11 [(0, .ref 122), (1, .int v.1), (2, .int v.2.1), (3, .int v.2.2)] [] S :=
  lp_J (P := fun (v : Int32 × Int32 × Int32) (S : St) => J K 11 [(0, .ref 122), (1, .int v.1), (2, .int v.2.1), (3, .int v.2.2)] [] S) (fun k hk v S hf => by
    unfold f_X11_ropes_11b at hf
    refine j_iload_n hK dX11_ropes_11 3 rfl rfl ?_
    refine j_bipush hK (9 : Int32) dX11_ropes_12 bi_9 ?_
    refine j_icmp_gt hK 129 dX11_ropes_14 (by decide) (fun hc => ?_) (fun hc => ?_)
    · replace hf := if_1 hc hf
      refine j_sub [0, 1, 2] rfl ?_
      exact he _ _ hf
    · replace hf := if_2 hc hf
      refine j_iconst hK (0 : Int32) dX11_ropes_17 ic_0 ?_
      refine j_istore hK (L' := [(4, .int (0 : Int32)), (0, .ref 122), (1, .int v.1), (2, .int v.2.1), (3, .int v.2.2)]) dX11_ropes_18 (by decide) rfl ?_
      refine j_sub [1, 2, 3, 4, 0] rfl ?_
      refine t_X11_ropes_20 hK hA  (fun v15 S16 hf => ?_) _ _ _ hf
      refine j_iinc hK (L' := [(3, .int (v.2.2 + (1 : Int32))), (0, .ref 122), (1, .int v15.1), (2, .int v15.2.1)]) dX11_ropes_123 3 rfl (congrArg (fun y => v.2.2 + y) ic_1) (by decide) rfl ?_
      refine j_goto hK 11 dX11_ropes_126 (by decide) ?_
      refine j_sub [1, 2, 3, 0] rfl ?_
      exact hk _ _ hf)
def f_X11_ropes (S : St) : Option (Int32 × St) := lt (sI S 122 0 (0 : Int32)) (fun S17 => lp (f_X11_ropes_11b  (fun v18 S19 => lt (sI S19 122 1 (0 : Int32)) (fun S20 => bd (f_X11_enters v18.1.toInt64 S20) (fun r21 S22 => bd (f_J6_bitCount_0f7a4 v18.1 S22) (fun r24 S25 => bd (f_X11_enters r24.toInt64 S25) (fun r27 S28 => some (v18.2.1, S28))))))) FU ((0 : Int32), (0 : Int32), (1 : Int32)) S17)
theorem c_X11_ropes {S : St} {r : Int32} {S' : St} (hf : f_X11_ropes S = some (r, S')) : zM yX11_ropes cX11_ropes 6 3 (some .int) [.ref 122] S (some (.int r)) S' := by
  refine zM_of (zpl (by decide)) (Nat.le_of_ble_eq_true rfl) rfl (fun K hK hA => ?_)
  unfold f_X11_ropes at hf
  refine j_aload_n hK dX11_ropes_0 0 rfl rfl ?_
  refine j_iconst hK (0 : Int32) dX11_ropes_1 ic_0 ?_
  refine j_putI hK fl_X11_3 dX11_ropes_2 zo_122 zf_11_0 ?_
  refine lt_S hf (fun S17 hf => ?_)
  refine j_iconst hK (0 : Int32) dX11_ropes_5 ic_0 ?_
  refine j_istore_n hK (L' := [(1, .int (0 : Int32)), (0, .ref 122)]) dX11_ropes_6 rfl (by decide) rfl ?_
  refine j_iconst hK (0 : Int32) dX11_ropes_7 ic_0 ?_
  refine j_istore_n hK (L' := [(2, .int (0 : Int32)), (1, .int (0 : Int32)), (0, .ref 122)]) dX11_ropes_8 rfl (by decide) rfl ?_
  refine j_iconst hK (1 : Int32) dX11_ropes_9 ic_1 ?_
  refine j_pc (pc' := 10) rfl ?_
  refine j_istore_n hK (L' := [(3, .int (1 : Int32)), (2, .int (0 : Int32)), (1, .int (0 : Int32)), (0, .ref 122)]) dX11_ropes_10 rfl (by decide) rfl ?_
  refine j_sub [3, 2, 1, 0] rfl ?_
  refine t_X11_ropes_11 hK hA  (fun v18 S19 hf => ?_) _ _ _ hf
  refine j_aload_n hK dX11_ropes_129 0 rfl rfl ?_
  refine j_iconst hK (0 : Int32) dX11_ropes_130 ic_0 ?_
  refine j_putI hK fl_X11_15 dX11_ropes_131 zo_122 zf_11_1 ?_
  refine lt_S hf (fun S20 hf => ?_)
  refine j_aload_n hK dX11_ropes_134 0 rfl rfl ?_
  refine j_iload_n hK dX11_ropes_135 1 rfl rfl ?_
  refine j_i2l hK dX11_ropes_136 ?_
  obtain ⟨r21, S22, h23, hf⟩ := bd_J hf
  refine k_callVv hK (c_X11_enters h23) dX11_ropes_137 zclX11 zo_122 ml_X11_340 mi_X11_enters mx_X11_enters in_X11 mc_X11_enters hy_X11_enters ⟨by decide, by decide⟩ rfl (Nat.le_of_ble_eq_true rfl) ?_
  refine j_pc (pc' := 140) rfl ?_
  refine j_aload_n hK dX11_ropes_140 0 rfl rfl ?_
  refine j_iload_n hK dX11_ropes_141 1 rfl rfl ?_
  obtain ⟨r24, S25, h26, hf⟩ := bd_J hf
  refine k_callSi hK (c_J6_bitCount_0f7a4 h26) dX11_ropes_142 ml_X11_355 ms_J6_bitCount_0f7a4 in_J6 mc_J6_bitCount_0f7a4 hy_J6_bitCount_0f7a4 ⟨by decide, by decide⟩ rfl (Nat.le_of_ble_eq_true rfl) ?_
  refine j_i2l hK dX11_ropes_145 ?_
  obtain ⟨r27, S28, h29, hf⟩ := bd_J hf
  refine k_callVv hK (c_X11_enters h29) dX11_ropes_146 zclX11 zo_122 ml_X11_340 mi_X11_enters mx_X11_enters in_X11 mc_X11_enters hy_X11_enters ⟨by decide, by decide⟩ rfl (Nat.le_of_ble_eq_true rfl) ?_
  refine j_iload_n hK dX11_ropes_149 2 rfl rfl ?_
  exact j_iret hK dX11_ropes_150 rfl (rt_I hA hf)
