def f_X11_copies_2b (e : Int32 → St → Option (Unit × St)) (k : Int32 → St → Option (Unit × St)) (v : Int32) (S : St) : Option (Unit × St) := (if (39 : Int32) ≤ v then e v S else if inb v 39 then if inb v 39 then lt (sI S 127 v.toNatClampNeg (gI S 126 v.toNatClampNeg)) (fun S3 => k (v + (1 : Int32)) S3) else none else none)
theorem t_X11_copies_2 {K : CT} (hK : KO K cX11_copies RX11 2 1 none) {r : Unit} {S' : St} (hA : zans K = (none, S')) {e : Int32 → St → Option (Unit × St)} (he : ∀ (v : Int32) (S : St), e v S = some (r, S') → J K 26 [] [] S) : ∀ (n : Nat) (v : Int32) (S : St), lp (f_X11_copies_2b  e) n v S = some (r, S') → J K 2 [(0, .ref 122), (1, .int v)] [] S :=
  lp_J (P := fun (v : Int32) (S : St) => J K 2 [(0, .ref 122), (1, .int v)] [] S) (fun k hk v S hf => by
    unfold f_X11_copies_2b at hf
    refine j_iload_n hK dX11_copies_2 1 rfl rfl ?_
    refine j_bipush hK (39 : Int32) dX11_copies_3 bi_39 ?_
    refine j_icmp_ge hK 26 dX11_copies_5 (by decide) (fun hc => ?_) (fun hc => ?_)
    · replace hf := if_1 hc hf
      refine j_sub [] rfl ?_
      exact he _ _ hf
    · replace hf := if_2 hc hf
      refine j_aload_n hK dX11_copies_8 0 rfl rfl ?_
      refine j_getR hK fl_X11_34 dX11_copies_9 zo_122 zf_11_8 zr_122_8 ?_
      refine j_iload_n hK dX11_copies_12 1 rfl rfl ?_
      refine j_aload_n hK dX11_copies_13 0 rfl rfl ?_
      refine j_getR hK fl_X11_31 dX11_copies_14 zo_122 zf_11_7 zr_122_7 ?_
      refine j_iload_n hK dX11_copies_17 1 rfl rfl ?_
      obtain ⟨hi1, hf⟩ := gd hf
      refine k_iald hK dX11_copies_18 zb_126 hi1 rfl ?_
      refine j_pc (pc' := 19) rfl ?_
      obtain ⟨hi2, hf⟩ := gd hf
      refine k_iast hK dX11_copies_19 zb_127 hi2 rfl ?_
      refine lt_S hf (fun S3 hf => ?_)
      refine j_iinc hK (L' := [(1, .int (v + (1 : Int32))), (0, .ref 122)]) dX11_copies_20 1 rfl (congrArg (fun y => v + y) ic_1) (by decide) rfl ?_
      refine j_goto hK 2 dX11_copies_23 (by decide) ?_
      refine j_sub [1, 0] rfl ?_
      exact hk _ _ hf)
def f_X11_copies (S : St) : Option (Unit × St) := lp (f_X11_copies_2b  (fun v4 S5 => some ((), S5))) FU (0 : Int32) S
theorem c_X11_copies {S : St} {r : Unit} {S' : St} (hf : f_X11_copies S = some (r, S')) : zM yX11_copies cX11_copies 2 1 none [.ref 122] S (none) S' := by
  refine zM_of (zpl (by decide)) (Nat.le_of_ble_eq_true rfl) rfl (fun K hK hA => ?_)
  unfold f_X11_copies at hf
  refine j_iconst hK (0 : Int32) dX11_copies_0 ic_0 ?_
  refine j_istore_n hK (L' := [(1, .int (0 : Int32)), (0, .ref 122)]) dX11_copies_1 rfl (by decide) rfl ?_
  refine j_sub [1, 0] rfl ?_
  refine t_X11_copies_2 hK hA  (fun v4 S5 hf => ?_) _ _ _ hf
  exact j_vret hK dX11_copies_26 rfl (rt_V hA hf)
def f_X11_route_46b (e : Int32 → St → Option (Int32 × St)) (k : Int32 → St → Option (Int32 × St)) (v : Int32) (S : St) : Option (Int32 × St) := (if (gI S 122 24) ≤ v then e v S else if inb v 12 then bd (f_X11_enters (gI S 134 v.toNatClampNeg).toInt64 S) (fun r2 S3 => k (v + (1 : Int32)) S3) else none)
theorem t_X11_route_46 {K : CT} (hK : KO K cX11_route RX11 4 4 (some .int)) {r : Int32} {S' : St} (hA : zans K = (some (.int r), S')) {e : Int32 → St → Option (Int32 × St)} (he : ∀ (v : Int32) (S : St), e v S = some (r, S') → J K 71 [(0, .ref 122)] [] S) : ∀ (n : Nat) (v : Int32) (S : St), lp (f_X11_route_46b  e) n v S = some (r, S') → J K 46 [(0, .ref 122), (3, .int v)] [] S :=
  lp_J (P := fun (v : Int32) (S : St) => J K 46 [(0, .ref 122), (3, .int v)] [] S) (fun k hk v S hf => by
    unfold f_X11_route_46b at hf
    refine j_iload_n hK dX11_route_46 1 rfl rfl ?_
    refine j_aload_n hK dX11_route_47 0 rfl rfl ?_
    refine j_getI hK fl_X11_269 dX11_route_48 zo_122 zf_11_24 ?_
    refine j_icmp_ge hK 71 dX11_route_51 (by decide) (fun hc => ?_) (fun hc => ?_)
    · replace hf := if_1 hc hf
      refine j_sub [0] rfl ?_
      exact he _ _ hf
    · replace hf := if_2 hc hf
      refine j_aload_n hK dX11_route_54 0 rfl rfl ?_
      refine j_aload_n hK dX11_route_55 0 rfl rfl ?_
      refine j_getR hK fl_X11_55 dX11_route_56 zo_122 zf_11_22 zr_122_22 ?_
      refine j_iload_n hK dX11_route_59 1 rfl rfl ?_
      obtain ⟨hi1, hf⟩ := gd hf
      refine k_iald hK dX11_route_60 zb_134 hi1 rfl ?_
      refine j_i2l hK dX11_route_61 ?_
      obtain ⟨r2, S3, h4, hf⟩ := bd_J hf
      refine k_callVv hK (c_X11_enters h4) dX11_route_62 zclX11 zo_122 ml_X11_340 mi_X11_enters mx_X11_enters in_X11 mc_X11_enters hy_X11_enters ⟨by decide, by decide⟩ rfl (Nat.le_of_ble_eq_true rfl) ?_
      refine j_pc (pc' := 65) rfl ?_
      refine j_iinc hK (L' := [(3, .int (v + (1 : Int32))), (0, .ref 122)]) dX11_route_65 1 rfl (congrArg (fun y => v + y) ic_1) (by decide) rfl ?_
      refine j_goto hK 46 dX11_route_68 (by decide) ?_
      refine j_sub [1, 0] rfl ?_
      exact hk _ _ hf)
def f_X11_route (p1 : Int32) (p2 : Int32) (S : St) : Option (Int32 × St) := lt (sI S 122 0 (0 : Int32)) (fun S5 => bd (f_X11_isEcho 126 p1 p2 S5) (fun r6 S7 => (if r6 = 0 then some ((-1 : Int32), S7) else bd (f_X11_laysEcho 126 p1 p2 S7) (fun r9 S10 => lt (sI S10 122 1 (0 : Int32)) (fun S12 => bd (f_X11_enters (gI S12 122 26).toInt64 S12) (fun r13 S14 => lp (f_X11_route_46b  (fun v16 S17 => some ((gI S17 122 25), S17))) FU (0 : Int32) S14))))))
theorem c_X11_route {p1 : Int32} {p2 : Int32} {S : St} {r : Int32} {S' : St} (hf : f_X11_route p1 p2 S = some (r, S')) : zM yX11_route cX11_route 4 4 (some .int) [.ref 122, .int p1, .int p2] S (some (.int r)) S' := by
  refine zM_of (zpl (by decide)) (Nat.le_of_ble_eq_true rfl) rfl (fun K hK hA => ?_)
  unfold f_X11_route at hf
  refine j_aload_n hK dX11_route_0 0 rfl rfl ?_
  refine j_iconst hK (0 : Int32) dX11_route_1 ic_0 ?_
  refine j_putI hK fl_X11_3 dX11_route_2 zo_122 zf_11_0 ?_
  refine lt_S hf (fun S5 hf => ?_)
  refine j_aload_n hK dX11_route_5 0 rfl rfl ?_
  refine j_aload_n hK dX11_route_6 0 rfl rfl ?_
  refine j_getR hK fl_X11_31 dX11_route_7 zo_122 zf_11_7 zr_122_7 ?_
  refine j_iload_n hK dX11_route_10 1 rfl rfl ?_
  refine j_iload_n hK dX11_route_11 2 rfl rfl ?_
  refine j_pc (pc' := 12) rfl ?_
  obtain ⟨r6, S7, h8, hf⟩ := bd_J hf
  refine k_callVi hK (c_X11_isEcho zb_126 h8) dX11_route_12 zclX11 zo_122 ml_X11_326 mi_X11_isEcho mx_X11_isEcho in_X11 mc_X11_isEcho hy_X11_isEcho ⟨by decide, by decide⟩ rfl (Nat.le_of_ble_eq_true rfl) ?_
  refine j_if_ne hK 20 dX11_route_15 (by decide) (fun hc => ?_) (fun hc => ?_)
  · replace hf := if_2 hc hf
    refine j_aload_n hK dX11_route_20 0 rfl rfl ?_
    refine j_aload_n hK dX11_route_21 0 rfl rfl ?_
    refine j_getR hK fl_X11_31 dX11_route_22 zo_122 zf_11_7 zr_122_7 ?_
    refine j_iload_n hK dX11_route_25 1 rfl rfl ?_
    refine j_iload_n hK dX11_route_26 2 rfl rfl ?_
    obtain ⟨r9, S10, h11, hf⟩ := bd_J hf
    refine k_callVv hK (c_X11_laysEcho zb_126 h11) dX11_route_27 zclX11 zo_122 ml_X11_336 mi_X11_laysEcho mx_X11_laysEcho in_X11 mc_X11_laysEcho hy_X11_laysEcho ⟨by decide, by decide⟩ rfl (Nat.le_of_ble_eq_true rfl) ?_
    refine j_aload_n hK dX11_route_30 0 rfl rfl ?_
    refine j_pc (pc' := 31) rfl ?_
    refine j_iconst hK (0 : Int32) dX11_route_31 ic_0 ?_
    refine j_putI hK fl_X11_15 dX11_route_32 zo_122 zf_11_1 ?_
    refine lt_S hf (fun S12 hf => ?_)
    refine j_aload_n hK dX11_route_35 0 rfl rfl ?_
    refine j_aload_n hK dX11_route_36 0 rfl rfl ?_
    refine j_getI hK fl_X11_275 dX11_route_37 zo_122 zf_11_26 ?_
    refine j_i2l hK dX11_route_40 ?_
    obtain ⟨r13, S14, h15, hf⟩ := bd_J hf
    refine k_callVv hK (c_X11_enters h15) dX11_route_41 zclX11 zo_122 ml_X11_340 mi_X11_enters mx_X11_enters in_X11 mc_X11_enters hy_X11_enters ⟨by decide, by decide⟩ rfl (Nat.le_of_ble_eq_true rfl) ?_
    refine j_iconst hK (0 : Int32) dX11_route_44 ic_0 ?_
    refine j_pc (pc' := 45) rfl ?_
    refine j_istore_n hK (L' := [(3, .int (0 : Int32)), (0, .ref 122), (1, .int p1), (2, .int p2)]) dX11_route_45 rfl (by decide) rfl ?_
    refine j_sub [1, 0] rfl ?_
    refine t_X11_route_46 hK hA  (fun v16 S17 hf => ?_) _ _ _ hf
    refine j_aload_n hK dX11_route_71 0 rfl rfl ?_
    refine j_getI hK fl_X11_272 dX11_route_72 zo_122 zf_11_25 ?_
    exact j_iret hK dX11_route_75 rfl (rt_I hA hf)
  · replace hf := if_1 hc hf
    refine j_iconst hK (-1 : Int32) dX11_route_18 ic_m1 ?_
    exact j_iret hK dX11_route_19 rfl (rt_I hA hf)
def f_X11_hears_83 (x3 : Int32) (x5 : Int32) (x6 : Int32) (s0 : Int32) (s1 : Int32) (k e : Int32 × Int32 → St → Option (Int32 × St)) (S : St) : Option (Int32 × St) := bd (f_X11_flag s1 S) (fun r1 S2 => lt (s0 + r1) (fun y4 => bd (f_X11_enters x6.toInt64 S2) (fun r5 S6 => k (y4, (x5 + (1 : Int32))) S6)))
theorem t_X11_hears_83 {K : CT} (hK : KO K cX11_hears RX11 7 6 (some .int)) {r : Int32} {S' : St} (hA : zans K = (some (.int r), S')) {x3 : Int32} {x5 : Int32} {x6 : Int32} {s0 : Int32} {s1 : Int32} {k e : Int32 × Int32 → St → Option (Int32 × St)} (hk : ∀ (v : Int32 × Int32) (S : St), k v S = some (r, S') → J K 39 [(0, .ref 122), (3, .int x3), (4, .int v.1), (5, .int v.2)] [] S) (he : ∀ (v : Int32 × Int32) (S : St), e v S = some (r, S') → J K 102 [(4, .int v.1)] [] S) {S : St} (hf : f_X11_hears_83 x3 x5 x6 s0 s1 k e S = some (r, S')) : J K 83 [(0, .ref 122), (3, .int x3), (5, .int x5), (6, .int x6)] [.int s1, .int s0] S := by
  unfold f_X11_hears_83 at hf
  obtain ⟨r1, S2, h3, hf⟩ := bd_J hf
  refine k_callSi hK (c_X11_flag h3) dX11_hears_83 ml_X11_155 ms_X11_flag in_X11 mc_X11_flag hy_X11_flag ⟨by decide, by decide⟩ rfl (Nat.le_of_ble_eq_true rfl) ?_
  refine j_iadd hK dX11_hears_86 ?_
  refine lt_I hf (fun y4 hf => ?_)
  refine j_istore hK (L' := [(4, .int y4), (0, .ref 122), (3, .int x3), (5, .int x5), (6, .int x6)]) dX11_hears_87 (by decide) rfl ?_
  refine j_aload_n hK dX11_hears_89 1 rfl rfl ?_
  refine j_iload hK dX11_hears_90 4 rfl ?_
  refine j_i2l hK dX11_hears_92 ?_
  obtain ⟨r5, S6, h7, hf⟩ := bd_J hf
  refine k_callVv hK (c_X11_enters h7) dX11_hears_93 zclX11 zo_122 ml_X11_340 mi_X11_enters mx_X11_enters in_X11 mc_X11_enters hy_X11_enters ⟨by decide, by decide⟩ rfl (Nat.le_of_ble_eq_true rfl) ?_
  refine j_iinc hK (L' := [(5, .int (x5 + (1 : Int32))), (4, .int y4), (0, .ref 122), (3, .int x3), (6, .int x6)]) dX11_hears_96 3 rfl (congrArg (fun y => x5 + y) ic_1) (by decide) rfl ?_
  refine j_pc (pc' := 99) rfl ?_
  refine j_goto hK 39 dX11_hears_99 (by decide) ?_
  refine j_sub [2, 3, 1, 0] rfl ?_
  exact hk _ _ hf
def f_X11_hears_39b (x3 : Int32) (e : Int32 × Int32 → St → Option (Int32 × St)) (k : Int32 × Int32 → St → Option (Int32 × St)) (v : Int32 × Int32) (S : St) : Option (Int32 × St) := (if x3 ≤ v.2 then e (v.1, v.2) S else if inb v.2 6 then bd (f_X11_comesOut 126 (gI S 138 v.2.toNatClampNeg) v.2 S) (fun r9 S10 => if inb v.2 6 then (if r9 = (gI S10 138 v.2.toNatClampNeg) then f_X11_hears_83 x3 v.2 r9 v.1 (1 : Int32) k e S10 else f_X11_hears_83 x3 v.2 r9 v.1 (0 : Int32) k e S10) else none) else none)
theorem t_X11_hears_39 {K : CT} (hK : KO K cX11_hears RX11 7 6 (some .int)) {r : Int32} {S' : St} (hA : zans K = (some (.int r), S')) {x3 : Int32} {e : Int32 × Int32 → St → Option (Int32 × St)} (he : ∀ (v : Int32 × Int32) (S : St), e v S = some (r, S') → J K 102 [(4, .int v.1)] [] S) : ∀ (n : Nat) (v : Int32 × Int32) (S : St), lp (f_X11_hears_39b x3 e) n v S = some (r, S') → J K 39 [(0, .ref 122), (3, .int x3), (4, .int v.1), (5, .int v.2)] [] S :=
  lp_J (P := fun (v : Int32 × Int32) (S : St) => J K 39 [(0, .ref 122), (3, .int x3), (4, .int v.1), (5, .int v.2)] [] S) (fun k hk v S hf => by
    unfold f_X11_hears_39b at hf
    refine j_iload hK dX11_hears_39 3 rfl ?_
    refine j_iload_n hK dX11_hears_41 1 rfl rfl ?_
    refine j_icmp_ge hK 102 dX11_hears_42 (by decide) (fun hc => ?_) (fun hc => ?_)
    · replace hf := if_1 hc hf
      refine j_sub [2] rfl ?_
      exact he _ _ hf
    · replace hf := if_2 hc hf
      refine j_aload_n hK dX11_hears_45 0 rfl rfl ?_
      refine j_aload_n hK dX11_hears_46 0 rfl rfl ?_
      refine j_getR hK fl_X11_31 dX11_hears_47 zo_122 zf_11_7 zr_122_7 ?_
      refine j_aload_n hK dX11_hears_50 0 rfl rfl ?_
      refine j_getR hK fl_X11_68 dX11_hears_51 zo_122 zf_11_30 zr_122_30 ?_
      refine j_iload hK dX11_hears_54 3 rfl ?_
      obtain ⟨hi8, hf⟩ := gd hf
      refine k_iald hK dX11_hears_56 zb_138 hi8 rfl ?_
      refine j_pc (pc' := 57) rfl ?_
      refine j_iload hK dX11_hears_57 3 rfl ?_
      obtain ⟨r9, S10, h11, hf⟩ := bd_J hf
      refine k_callVi hK (c_X11_comesOut zb_126 h11) dX11_hears_59 zclX11 zo_122 ml_X11_344 mi_X11_comesOut mx_X11_comesOut in_X11 mc_X11_comesOut hy_X11_comesOut ⟨by decide, by decide⟩ rfl (Nat.le_of_ble_eq_true rfl) ?_
      refine j_istore hK (L' := [(6, .int r9), (0, .ref 122), (3, .int x3), (4, .int v.1), (5, .int v.2)]) dX11_hears_62 (by decide) rfl ?_
      refine j_iload hK dX11_hears_64 3 rfl ?_
      refine j_iload hK dX11_hears_66 0 rfl ?_
      refine j_aload_n hK dX11_hears_68 1 rfl rfl ?_
      refine j_getR hK fl_X11_68 dX11_hears_69 zo_122 zf_11_30 zr_122_30 ?_
      refine j_iload hK dX11_hears_72 4 rfl ?_
      refine j_pc (pc' := 74) rfl ?_
      obtain ⟨hi12, hf⟩ := gd hf
      refine k_iald hK dX11_hears_74 zb_138 hi12 rfl ?_
      refine j_icmp_ne hK 82 dX11_hears_75 (by decide) (fun hc => ?_) (fun hc => ?_)
      · replace hf := if_2 hc hf
        refine j_iconst hK (0 : Int32) dX11_hears_82 ic_0 ?_
        refine j_sub [1, 2, 4, 0] rfl ?_
        exact t_X11_hears_83 hK hA hk he hf
      · replace hf := if_1 hc hf
        refine j_iconst hK (1 : Int32) dX11_hears_78 ic_1 ?_
        refine j_goto hK 83 dX11_hears_79 (by decide) ?_
        refine j_sub [1, 2, 4, 0] rfl ?_
        exact t_X11_hears_83 hK hA hk he hf)
def f_X11_hears (p1 : Int32) (p2 : Int32) (S : St) : Option (Int32 × St) := lt (sI S 122 0 (0 : Int32)) (fun S13 => bd (f_X11_readsCall p1 p2 S13) (fun r14 S15 => (if 0 ≤ r14 then bd (f_X11_laysEcho 126 p1 p2 S15) (fun r17 S18 => lt (sI S18 122 1 (0 : Int32)) (fun S20 => lp (f_X11_hears_39b r14 (fun v21 S22 => some (v21.1, S22))) FU ((0 : Int32), (0 : Int32)) S20)) else some (r14, S15))))
theorem c_X11_hears {p1 : Int32} {p2 : Int32} {S : St} {r : Int32} {S' : St} (hf : f_X11_hears p1 p2 S = some (r, S')) : zM yX11_hears cX11_hears 7 6 (some .int) [.ref 122, .int p1, .int p2] S (some (.int r)) S' := by
  refine zM_of (zpl (by decide)) (Nat.le_of_ble_eq_true rfl) rfl (fun K hK hA => ?_)
  unfold f_X11_hears at hf
  refine j_aload_n hK dX11_hears_0 0 rfl rfl ?_
  refine j_iconst hK (0 : Int32) dX11_hears_1 ic_0 ?_
  refine j_putI hK fl_X11_3 dX11_hears_2 zo_122 zf_11_0 ?_
  refine lt_S hf (fun S13 hf => ?_)
  refine j_aload_n hK dX11_hears_5 0 rfl rfl ?_
  refine j_iload_n hK dX11_hears_6 1 rfl rfl ?_
  refine j_iload_n hK dX11_hears_7 2 rfl rfl ?_
  obtain ⟨r14, S15, h16, hf⟩ := bd_J hf
  refine k_callVi hK (c_X11_readsCall h16) dX11_hears_8 zclX11 zo_122 ml_X11_333 mi_X11_readsCall mx_X11_readsCall in_X11 mc_X11_readsCall hy_X11_readsCall ⟨by decide, by decide⟩ rfl (Nat.le_of_ble_eq_true rfl) ?_
  refine j_istore_n hK (L' := [(3, .int r14), (0, .ref 122), (1, .int p1), (2, .int p2)]) dX11_hears_11 rfl (by decide) rfl ?_
  refine j_pc (pc' := 12) rfl ?_
  refine j_iload_n hK dX11_hears_12 0 rfl rfl ?_
  refine j_if_ge hK 18 dX11_hears_13 (by decide) (fun hc => ?_) (fun hc => ?_)
  · replace hf := if_1 hc hf
    refine j_aload_n hK dX11_hears_18 1 rfl rfl ?_
    refine j_aload_n hK dX11_hears_19 1 rfl rfl ?_
    refine j_getR hK fl_X11_31 dX11_hears_20 zo_122 zf_11_7 zr_122_7 ?_
    refine j_iload_n hK dX11_hears_23 2 rfl rfl ?_
    refine j_iload_n hK dX11_hears_24 3 rfl rfl ?_
    obtain ⟨r17, S18, h19, hf⟩ := bd_J hf
    refine k_callVv hK (c_X11_laysEcho zb_126 h19) dX11_hears_25 zclX11 zo_122 ml_X11_336 mi_X11_laysEcho mx_X11_laysEcho in_X11 mc_X11_laysEcho hy_X11_laysEcho ⟨by decide, by decide⟩ rfl (Nat.le_of_ble_eq_true rfl) ?_
    refine j_iconst hK (0 : Int32) dX11_hears_28 ic_0 ?_
    refine j_pc (pc' := 29) rfl ?_
    refine j_istore hK (L' := [(4, .int (0 : Int32)), (3, .int r14), (0, .ref 122), (1, .int p1), (2, .int p2)]) dX11_hears_29 (by decide) rfl ?_
    refine j_aload_n hK dX11_hears_31 2 rfl rfl ?_
    refine j_iconst hK (0 : Int32) dX11_hears_32 ic_0 ?_
    refine j_putI hK fl_X11_15 dX11_hears_33 zo_122 zf_11_1 ?_
    refine lt_S hf (fun S20 hf => ?_)
    refine j_iconst hK (0 : Int32) dX11_hears_36 ic_0 ?_
    refine j_istore hK (L' := [(5, .int (0 : Int32)), (4, .int (0 : Int32)), (3, .int r14), (0, .ref 122), (1, .int p1), (2, .int p2)]) dX11_hears_37 (by decide) rfl ?_
    refine j_sub [3, 2, 1, 0] rfl ?_
    refine t_X11_hears_39 hK hA  (fun v21 S22 hf => ?_) _ _ _ hf
    refine j_iload hK dX11_hears_102 0 rfl ?_
    exact j_iret hK dX11_hears_104 rfl (rt_I hA hf)
  · replace hf := if_2 hc hf
    refine j_iload_n hK dX11_hears_16 0 rfl rfl ?_
    exact j_iret hK dX11_hears_17 rfl (rt_I hA hf)
def f_X11_asks_153 (x4 : Int32) (s1 : Int32) (S : St) : Option (Int32 × St) := lt (sI S 122 1 s1) (fun S1 => some (x4, S1))
theorem t_X11_asks_153 {K : CT} (hK : KO K cX11_asks RX11 10 6 (some .int)) {r : Int32} {S' : St} (hA : zans K = (some (.int r), S')) {x4 : Int32} {s1 : Int32} {S : St} (hf : f_X11_asks_153 x4 s1 S = some (r, S')) : J K 153 [(4, .int x4)] [.int s1, .ref 122] S := by
  unfold f_X11_asks_153 at hf
  refine j_putI hK fl_X11_15 dX11_asks_153 zo_122 zf_11_1 ?_
  refine lt_S hf (fun S1 hf => ?_)
  refine j_iload hK dX11_asks_156 0 rfl ?_
  exact j_iret hK dX11_asks_158 rfl (rt_I hA hf)
def f_X11_asks_101 (x3 : Int32) (x4 : Int32) (x5 : Int32) (x6 : Int32) (x8 : Int32) (x9 : Int32) (s0 : Int32) (k e : Int32 × Int32 × Int32 → St → Option (Int32 × St)) (S : St) : Option (Int32 × St) := bd (f_X11_flag x9 S) (fun r2 S3 => lt (x6 + r2) (fun y5 => k (y5, s0, (x8 + (-1 : Int32))) S3))
theorem t_X11_asks_101 {K : CT} (hK : KO K cX11_asks RX11 10 6 (some .int)) {r : Int32} {S' : St} (hA : zans K = (some (.int r), S')) {x3 : Int32} {x4 : Int32} {x5 : Int32} {x6 : Int32} {x8 : Int32} {x9 : Int32} {s0 : Int32} {k e : Int32 × Int32 × Int32 → St → Option (Int32 × St)} (hk : ∀ (v : Int32 × Int32 × Int32) (S : St), k v S = some (r, S') → J K 55 [(0, .ref 122), (3, .int x3), (4, .int x4), (5, .int x5), (6, .int v.1), (7, .int v.2.1), (8, .int v.2.2)] [] S) (he : ∀ (v : Int32 × Int32 × Int32) (S : St), e v S = some (r, S') → J K 119 [(0, .ref 122), (3, .int x3), (4, .int x4), (5, .int x5), (6, .int v.1), (7, .int v.2.1)] [] S) {S : St} (hf : f_X11_asks_101 x3 x4 x5 x6 x8 x9 s0 k e S = some (r, S')) : J K 101 [(0, .ref 122), (3, .int x3), (4, .int x4), (5, .int x5), (6, .int x6), (8, .int x8), (9, .int x9)] [.int s0] S := by
  unfold f_X11_asks_101 at hf
  refine j_istore hK (L' := [(7, .int s0), (0, .ref 122), (3, .int x3), (4, .int x4), (5, .int x5), (6, .int x6), (8, .int x8), (9, .int x9)]) dX11_asks_101 (by decide) rfl ?_
  refine j_iload hK dX11_asks_103 5 rfl ?_
  refine j_iload hK dX11_asks_105 7 rfl ?_
  obtain ⟨r2, S3, h4, hf⟩ := bd_J hf
  refine k_callSi hK (c_X11_flag h4) dX11_asks_107 ml_X11_155 ms_X11_flag in_X11 mc_X11_flag hy_X11_flag ⟨by decide, by decide⟩ rfl (Nat.le_of_ble_eq_true rfl) ?_
  refine j_iadd hK dX11_asks_110 ?_
  refine lt_I hf (fun y5 hf => ?_)
  refine j_istore hK (L' := [(6, .int y5), (7, .int s0), (0, .ref 122), (3, .int x3), (4, .int x4), (5, .int x5), (8, .int x8), (9, .int x9)]) dX11_asks_111 (by decide) rfl ?_
  refine j_iinc hK (L' := [(8, .int (x8 + (-1 : Int32))), (6, .int y5), (7, .int s0), (0, .ref 122), (3, .int x3), (4, .int x4), (5, .int x5), (9, .int x9)]) dX11_asks_113 6 rfl (congrArg (fun y => x8 + y) ic_m1) (by decide) rfl ?_
  refine j_goto hK 55 dX11_asks_116 (by decide) ?_
  refine j_sub [3, 4, 5, 6, 1, 2, 0] rfl ?_
  exact hk _ _ hf
def f_X11_asks_87 (x3 : Int32) (x4 : Int32) (x5 : Int32) (x6 : Int32) (x7 : Int32) (x8 : Int32) (s0 : Int32) (k e : Int32 × Int32 × Int32 → St → Option (Int32 × St)) (S : St) : Option (Int32 × St) := (if s0 = 0 then f_X11_asks_101 x3 x4 x5 x6 x8 s0 x7 k e S else f_X11_asks_101 x3 x4 x5 x6 x8 s0 x8 k e S)
theorem t_X11_asks_87 {K : CT} (hK : KO K cX11_asks RX11 10 6 (some .int)) {r : Int32} {S' : St} (hA : zans K = (some (.int r), S')) {x3 : Int32} {x4 : Int32} {x5 : Int32} {x6 : Int32} {x7 : Int32} {x8 : Int32} {s0 : Int32} {k e : Int32 × Int32 × Int32 → St → Option (Int32 × St)} (hk : ∀ (v : Int32 × Int32 × Int32) (S : St), k v S = some (r, S') → J K 55 [(0, .ref 122), (3, .int x3), (4, .int x4), (5, .int x5), (6, .int v.1), (7, .int v.2.1), (8, .int v.2.2)] [] S) (he : ∀ (v : Int32 × Int32 × Int32) (S : St), e v S = some (r, S') → J K 119 [(0, .ref 122), (3, .int x3), (4, .int x4), (5, .int x5), (6, .int v.1), (7, .int v.2.1)] [] S) {S : St} (hf : f_X11_asks_87 x3 x4 x5 x6 x7 x8 s0 k e S = some (r, S')) : J K 87 [(0, .ref 122), (3, .int x3), (4, .int x4), (5, .int x5), (6, .int x6), (7, .int x7), (8, .int x8)] [.int s0] S := by
  unfold f_X11_asks_87 at hf
  refine j_istore hK (L' := [(9, .int s0), (0, .ref 122), (3, .int x3), (4, .int x4), (5, .int x5), (6, .int x6), (7, .int x7), (8, .int x8)]) dX11_asks_87 (by decide) rfl ?_
  refine j_iload hK dX11_asks_89 0 rfl ?_
  refine j_if_eq hK 99 dX11_asks_91 (by decide) (fun hc => ?_) (fun hc => ?_)
  · replace hf := if_1 hc hf
    refine j_iload hK dX11_asks_99 6 rfl ?_
    refine j_sub [1, 2, 3, 4, 5, 7, 0] rfl ?_
    exact t_X11_asks_101 hK hA hk he hf
  · replace hf := if_2 hc hf
    refine j_iload hK dX11_asks_94 7 rfl ?_
    refine j_goto hK 101 dX11_asks_96 (by decide) ?_
    refine j_sub [1, 2, 3, 4, 5, 7, 0] rfl ?_
    exact t_X11_asks_101 hK hA hk he hf
def f_X11_asks_55b (x3 : Int32) (x4 : Int32) (x5 : Int32) (e : Int32 × Int32 × Int32 → St → Option (Int32 × St)) (k : Int32 × Int32 × Int32 → St → Option (Int32 × St)) (v : Int32 × Int32 × Int32) (S : St) : Option (Int32 × St) := (if v.2.2 < 0 then e (v.1, v.2.1, v.2.2) S else bd (f_X11_comesOut 126 v.2.2 x5 S) (fun r6 S7 => if inb x5 6 then (if r6 = (gI S7 138 x5.toNatClampNeg) then f_X11_asks_87 x3 x4 x5 v.1 v.2.1 v.2.2 (1 : Int32) k e S7 else f_X11_asks_87 x3 x4 x5 v.1 v.2.1 v.2.2 (0 : Int32) k e S7) else none))
theorem t_X11_asks_55 {K : CT} (hK : KO K cX11_asks RX11 10 6 (some .int)) {r : Int32} {S' : St} (hA : zans K = (some (.int r), S')) {x3 : Int32} {x4 : Int32} {x5 : Int32} {e : Int32 × Int32 × Int32 → St → Option (Int32 × St)} (he : ∀ (v : Int32 × Int32 × Int32) (S : St), e v S = some (r, S') → J K 119 [(0, .ref 122), (3, .int x3), (4, .int x4), (5, .int x5), (6, .int v.1), (7, .int v.2.1)] [] S) : ∀ (n : Nat) (v : Int32 × Int32 × Int32) (S : St), lp (f_X11_asks_55b x3 x4 x5 e) n v S = some (r, S') → J K 55 [(0, .ref 122), (3, .int x3), (4, .int x4), (5, .int x5), (6, .int v.1), (7, .int v.2.1), (8, .int v.2.2)] [] S :=
  lp_J (P := fun (v : Int32 × Int32 × Int32) (S : St) => J K 55 [(0, .ref 122), (3, .int x3), (4, .int x4), (5, .int x5), (6, .int v.1), (7, .int v.2.1), (8, .int v.2.2)] [] S) (fun k hk v S hf => by
    unfold f_X11_asks_55b at hf
    refine j_iload hK dX11_asks_55 6 rfl ?_
    refine j_if_lt hK 119 dX11_asks_57 (by decide) (fun hc => ?_) (fun hc => ?_)
    · replace hf := if_1 hc hf
      refine j_sub [0, 1, 2, 3, 4, 5] rfl ?_
      exact he _ _ hf
    · replace hf := if_2 hc hf
      refine j_aload_n hK dX11_asks_60 0 rfl rfl ?_
      refine j_aload_n hK dX11_asks_61 0 rfl rfl ?_
      refine j_getR hK fl_X11_31 dX11_asks_62 zo_122 zf_11_7 zr_122_7 ?_
      refine j_iload hK dX11_asks_65 6 rfl ?_
      refine j_iload hK dX11_asks_67 3 rfl ?_
      obtain ⟨r6, S7, h8, hf⟩ := bd_J hf
      refine k_callVi hK (c_X11_comesOut zb_126 h8) dX11_asks_69 zclX11 zo_122 ml_X11_344 mi_X11_comesOut mx_X11_comesOut in_X11 mc_X11_comesOut hy_X11_comesOut ⟨by decide, by decide⟩ rfl (Nat.le_of_ble_eq_true rfl) ?_
      refine j_aload_n hK dX11_asks_72 0 rfl rfl ?_
      refine j_pc (pc' := 73) rfl ?_
      refine j_getR hK fl_X11_68 dX11_asks_73 zo_122 zf_11_30 zr_122_30 ?_
      refine j_iload hK dX11_asks_76 3 rfl ?_
      obtain ⟨hi9, hf⟩ := gd hf
      refine k_iald hK dX11_asks_78 zb_138 hi9 rfl ?_
      refine j_icmp_ne hK 86 dX11_asks_79 (by decide) (fun hc => ?_) (fun hc => ?_)
      · replace hf := if_2 hc hf
        refine j_iconst hK (0 : Int32) dX11_asks_86 ic_0 ?_
        exact t_X11_asks_87 hK hA hk he hf
      · replace hf := if_1 hc hf
        refine j_iconst hK (1 : Int32) dX11_asks_82 ic_1 ?_
        refine j_goto hK 87 dX11_asks_83 (by decide) ?_
        exact t_X11_asks_87 hK hA hk he hf)
def f_X11_asks_39b (x3 : Int32) (e : Int32 × Int32 → St → Option (Int32 × St)) (k : Int32 × Int32 → St → Option (Int32 × St)) (v : Int32 × Int32) (S : St) : Option (Int32 × St) := (if x3 ≤ v.2 then e (v.1, v.2) S else lp (f_X11_asks_55b x3 v.1 v.2 (fun v10 S11 => lt (v.1 * v10.1) (fun y12 => bd (f_X11_enters v10.2.1.toInt64 S11) (fun r13 S14 => k (y12, (v.2 + (1 : Int32))) S14)))) FU ((0 : Int32), (-1 : Int32), (7 : Int32)) S)
theorem t_X11_asks_39 {K : CT} (hK : KO K cX11_asks RX11 10 6 (some .int)) {r : Int32} {S' : St} (hA : zans K = (some (.int r), S')) {x3 : Int32} {e : Int32 × Int32 → St → Option (Int32 × St)} (he : ∀ (v : Int32 × Int32) (S : St), e v S = some (r, S') → J K 139 [(0, .ref 122), (4, .int v.1)] [] S) : ∀ (n : Nat) (v : Int32 × Int32) (S : St), lp (f_X11_asks_39b x3 e) n v S = some (r, S') → J K 39 [(0, .ref 122), (3, .int x3), (4, .int v.1), (5, .int v.2)] [] S :=
  lp_J (P := fun (v : Int32 × Int32) (S : St) => J K 39 [(0, .ref 122), (3, .int x3), (4, .int v.1), (5, .int v.2)] [] S) (fun k hk v S hf => by
    unfold f_X11_asks_39b at hf
    refine j_iload hK dX11_asks_39 3 rfl ?_
    refine j_iload_n hK dX11_asks_41 1 rfl rfl ?_
    refine j_icmp_ge hK 139 dX11_asks_42 (by decide) (fun hc => ?_) (fun hc => ?_)
    · replace hf := if_1 hc hf
      refine j_sub [0, 2] rfl ?_
      exact he _ _ hf
    · replace hf := if_2 hc hf
      refine j_iconst hK (0 : Int32) dX11_asks_45 ic_0 ?_
      refine j_istore hK (L' := [(6, .int (0 : Int32)), (0, .ref 122), (3, .int x3), (4, .int v.1), (5, .int v.2)]) dX11_asks_46 (by decide) rfl ?_
      refine j_iconst hK (-1 : Int32) dX11_asks_48 ic_m1 ?_
      refine j_istore hK (L' := [(7, .int (-1 : Int32)), (6, .int (0 : Int32)), (0, .ref 122), (3, .int x3), (4, .int v.1), (5, .int v.2)]) dX11_asks_49 (by decide) rfl ?_
      refine j_bipush hK (7 : Int32) dX11_asks_51 bi_7 ?_
      refine j_istore hK (L' := [(8, .int (7 : Int32)), (7, .int (-1 : Int32)), (6, .int (0 : Int32)), (0, .ref 122), (3, .int x3), (4, .int v.1), (5, .int v.2)]) dX11_asks_53 (by decide) rfl ?_
      refine j_sub [3, 4, 5, 6, 2, 1, 0] rfl ?_
      refine t_X11_asks_55 hK hA  (fun v10 S11 hf => ?_) _ _ _ hf
      refine j_iload hK dX11_asks_119 2 rfl ?_
      refine j_iload hK dX11_asks_121 4 rfl ?_
      refine j_imul hK dX11_asks_123 ?_
      refine lt_I hf (fun y12 hf => ?_)
      refine j_istore hK (L' := [(4, .int y12), (0, .ref 122), (3, .int x3), (5, .int v.2), (6, .int v10.1), (7, .int v10.2.1)]) dX11_asks_124 (by decide) rfl ?_
      refine j_aload_n hK dX11_asks_126 1 rfl rfl ?_
      refine j_iload hK dX11_asks_127 5 rfl ?_
      refine j_i2l hK dX11_asks_129 ?_
      refine j_pc (pc' := 130) rfl ?_
      obtain ⟨r13, S14, h15, hf⟩ := bd_J hf
      refine k_callVv hK (c_X11_enters h15) dX11_asks_130 zclX11 zo_122 ml_X11_340 mi_X11_enters mx_X11_enters in_X11 mc_X11_enters hy_X11_enters ⟨by decide, by decide⟩ rfl (Nat.le_of_ble_eq_true rfl) ?_
      refine j_iinc hK (L' := [(5, .int (v.2 + (1 : Int32))), (4, .int y12), (0, .ref 122), (3, .int x3), (6, .int v10.1), (7, .int v10.2.1)]) dX11_asks_133 3 rfl (congrArg (fun y => v.2 + y) ic_1) (by decide) rfl ?_
      refine j_goto hK 39 dX11_asks_136 (by decide) ?_
      refine j_sub [2, 3, 1, 0] rfl ?_
      exact hk _ _ hf)
def f_X11_asks (p1 : Int32) (p2 : Int32) (S : St) : Option (Int32 × St) := lt (sI S 122 0 (0 : Int32)) (fun S16 => bd (f_X11_readsCall p1 p2 S16) (fun r17 S18 => (if 0 ≤ r17 then bd (f_X11_laysEcho 126 p1 p2 S18) (fun r20 S21 => lt (sI S21 122 1 (0 : Int32)) (fun S23 => lp (f_X11_asks_39b r17 (fun v24 S25 => (if v24.1 = 0 then f_X11_asks_153 v24.1 (0 : Int32) S25 else f_X11_asks_153 v24.1 (gI S25 122 1) S25))) FU ((1 : Int32), (0 : Int32)) S23)) else some (r17, S18))))
theorem c_X11_asks {p1 : Int32} {p2 : Int32} {S : St} {r : Int32} {S' : St} (hf : f_X11_asks p1 p2 S = some (r, S')) : zM yX11_asks cX11_asks 10 6 (some .int) [.ref 122, .int p1, .int p2] S (some (.int r)) S' := by
  refine zM_of (zpl (by decide)) (Nat.le_of_ble_eq_true rfl) rfl (fun K hK hA => ?_)
  unfold f_X11_asks at hf
  refine j_aload_n hK dX11_asks_0 0 rfl rfl ?_
  refine j_iconst hK (0 : Int32) dX11_asks_1 ic_0 ?_
  refine j_putI hK fl_X11_3 dX11_asks_2 zo_122 zf_11_0 ?_
  refine lt_S hf (fun S16 hf => ?_)
  refine j_aload_n hK dX11_asks_5 0 rfl rfl ?_
  refine j_iload_n hK dX11_asks_6 1 rfl rfl ?_
  refine j_iload_n hK dX11_asks_7 2 rfl rfl ?_
  obtain ⟨r17, S18, h19, hf⟩ := bd_J hf
  refine k_callVi hK (c_X11_readsCall h19) dX11_asks_8 zclX11 zo_122 ml_X11_333 mi_X11_readsCall mx_X11_readsCall in_X11 mc_X11_readsCall hy_X11_readsCall ⟨by decide, by decide⟩ rfl (Nat.le_of_ble_eq_true rfl) ?_
  refine j_istore_n hK (L' := [(3, .int r17), (0, .ref 122), (1, .int p1), (2, .int p2)]) dX11_asks_11 rfl (by decide) rfl ?_
  refine j_pc (pc' := 12) rfl ?_
  refine j_iload_n hK dX11_asks_12 0 rfl rfl ?_
  refine j_if_ge hK 18 dX11_asks_13 (by decide) (fun hc => ?_) (fun hc => ?_)
  · replace hf := if_1 hc hf
    refine j_aload_n hK dX11_asks_18 1 rfl rfl ?_
    refine j_aload_n hK dX11_asks_19 1 rfl rfl ?_
    refine j_getR hK fl_X11_31 dX11_asks_20 zo_122 zf_11_7 zr_122_7 ?_
    refine j_iload_n hK dX11_asks_23 2 rfl rfl ?_
    refine j_iload_n hK dX11_asks_24 3 rfl rfl ?_
    obtain ⟨r20, S21, h22, hf⟩ := bd_J hf
    refine k_callVv hK (c_X11_laysEcho zb_126 h22) dX11_asks_25 zclX11 zo_122 ml_X11_336 mi_X11_laysEcho mx_X11_laysEcho in_X11 mc_X11_laysEcho hy_X11_laysEcho ⟨by decide, by decide⟩ rfl (Nat.le_of_ble_eq_true rfl) ?_
    refine j_iconst hK (1 : Int32) dX11_asks_28 ic_1 ?_
    refine j_pc (pc' := 29) rfl ?_
    refine j_istore hK (L' := [(4, .int (1 : Int32)), (3, .int r17), (0, .ref 122), (1, .int p1), (2, .int p2)]) dX11_asks_29 (by decide) rfl ?_
    refine j_aload_n hK dX11_asks_31 2 rfl rfl ?_
    refine j_iconst hK (0 : Int32) dX11_asks_32 ic_0 ?_
    refine j_putI hK fl_X11_15 dX11_asks_33 zo_122 zf_11_1 ?_
    refine lt_S hf (fun S23 hf => ?_)
    refine j_iconst hK (0 : Int32) dX11_asks_36 ic_0 ?_
    refine j_istore hK (L' := [(5, .int (0 : Int32)), (4, .int (1 : Int32)), (3, .int r17), (0, .ref 122), (1, .int p1), (2, .int p2)]) dX11_asks_37 (by decide) rfl ?_
    refine j_sub [3, 2, 1, 0] rfl ?_
    refine t_X11_asks_39 hK hA  (fun v24 S25 hf => ?_) _ _ _ hf
    refine j_aload_n hK dX11_asks_139 0 rfl rfl ?_
    refine j_iload hK dX11_asks_140 1 rfl ?_
    refine j_if_ne hK 149 dX11_asks_142 (by decide) (fun hc => ?_) (fun hc => ?_)
    · replace hf := if_2 hc hf
      refine j_aload_n hK dX11_asks_149 0 rfl rfl ?_
      refine j_getI hK fl_X11_15 dX11_asks_150 zo_122 zf_11_1 ?_
      refine j_sub [1] rfl ?_
      exact t_X11_asks_153 hK hA  hf
    · replace hf := if_1 hc hf
      refine j_iconst hK (0 : Int32) dX11_asks_145 ic_0 ?_
      refine j_goto hK 153 dX11_asks_146 (by decide) ?_
      refine j_sub [1] rfl ?_
      exact t_X11_asks_153 hK hA  hf
  · replace hf := if_2 hc hf
    refine j_iload_n hK dX11_asks_16 0 rfl rfl ?_
    exact j_iret hK dX11_asks_17 rfl (rt_I hA hf)
def f_X11_becomes_263 (x1 : Int32) (x3 : Int32) (x4 : Int32) (x5 : Int32) (k e : Int32 × Int32 → St → Option (Int32 × St)) (S : St) : Option (Int32 × St) := k (x3, (x5 + (1 : Int32))) S
theorem t_X11_becomes_263 {K : CT} (hK : KO K cX11_becomes RX11 8 6 (some .int)) {r : Int32} {S' : St} (hA : zans K = (some (.int r), S')) {x1 : Int32} {x3 : Int32} {x4 : Int32} {x5 : Int32} {k e : Int32 × Int32 → St → Option (Int32 × St)} (hk : ∀ (v : Int32 × Int32) (S : St), k v S = some (r, S') → J K 139 [(0, .ref 122), (1, .int x1), (3, .int v.1), (4, .int x4), (5, .int v.2)] [] S) (he : ∀ (v : Int32 × Int32) (S : St), e v S = some (r, S') → J K 269 [(0, .ref 122), (1, .int x1), (3, .int v.1), (4, .int x4)] [] S) {S : St} (hf : f_X11_becomes_263 x1 x3 x4 x5 k e S = some (r, S')) : J K 263 [(0, .ref 122), (1, .int x1), (3, .int x3), (4, .int x4), (5, .int x5)] [] S := by
  unfold f_X11_becomes_263 at hf
  refine j_iinc hK (L' := [(5, .int (x5 + (1 : Int32))), (0, .ref 122), (1, .int x1), (3, .int x3), (4, .int x4)]) dX11_becomes_263 4 rfl (congrArg (fun y => x5 + y) ic_1) (by decide) rfl ?_
  refine j_goto hK 139 dX11_becomes_266 (by decide) ?_
  refine j_sub [1, 2, 3, 4, 0] rfl ?_
  exact hk _ _ hf
def f_X11_becomes_255 (x1 : Int32) (x3 : Int32) (x4 : Int32) (x5 : Int32) (x6 : Int32) (k e : Int32 × Int32 → St → Option (Int32 × St)) (S : St) : Option (Int32 × St) := bd (f_X11_flag x6 S) (fun r1 S2 => lt (x3 + r1) (fun y4 => f_X11_becomes_263 x1 y4 x4 x5 k e S2))
theorem t_X11_becomes_255 {K : CT} (hK : KO K cX11_becomes RX11 8 6 (some .int)) {r : Int32} {S' : St} (hA : zans K = (some (.int r), S')) {x1 : Int32} {x3 : Int32} {x4 : Int32} {x5 : Int32} {x6 : Int32} {k e : Int32 × Int32 → St → Option (Int32 × St)} (hk : ∀ (v : Int32 × Int32) (S : St), k v S = some (r, S') → J K 139 [(0, .ref 122), (1, .int x1), (3, .int v.1), (4, .int x4), (5, .int v.2)] [] S) (he : ∀ (v : Int32 × Int32) (S : St), e v S = some (r, S') → J K 269 [(0, .ref 122), (1, .int x1), (3, .int v.1), (4, .int x4)] [] S) {S : St} (hf : f_X11_becomes_255 x1 x3 x4 x5 x6 k e S = some (r, S')) : J K 255 [(0, .ref 122), (1, .int x1), (3, .int x3), (4, .int x4), (5, .int x5), (6, .int x6)] [] S := by
  unfold f_X11_becomes_255 at hf
  refine j_iload_n hK dX11_becomes_255 2 rfl rfl ?_
  refine j_iload hK dX11_becomes_256 5 rfl ?_
  obtain ⟨r1, S2, h3, hf⟩ := bd_J hf
  refine k_callSi hK (c_X11_flag h3) dX11_becomes_258 ml_X11_155 ms_X11_flag in_X11 mc_X11_flag hy_X11_flag ⟨by decide, by decide⟩ rfl (Nat.le_of_ble_eq_true rfl) ?_
  refine j_iadd hK dX11_becomes_261 ?_
  refine lt_I hf (fun y4 hf => ?_)
  refine j_istore_n hK (L' := [(3, .int y4), (0, .ref 122), (1, .int x1), (4, .int x4), (5, .int x5), (6, .int x6)]) dX11_becomes_262 rfl (by decide) rfl ?_
  refine j_sub [1, 2, 0, 3, 4] rfl ?_
  exact t_X11_becomes_263 hK hA hk he hf
def f_X11_becomes_224 (x1 : Int32) (x3 : Int32) (x4 : Int32) (x5 : Int32) (x7 : Int32) (s0 : Int32) (k e : Int32 × Int32 → St → Option (Int32 × St)) (S : St) : Option (Int32 × St) := k (s0, (x7 + (1 : Int32))) S
theorem t_X11_becomes_224 {K : CT} (hK : KO K cX11_becomes RX11 8 6 (some .int)) {r : Int32} {S' : St} (hA : zans K = (some (.int r), S')) {x1 : Int32} {x3 : Int32} {x4 : Int32} {x5 : Int32} {x7 : Int32} {s0 : Int32} {k e : Int32 × Int32 → St → Option (Int32 × St)} (hk : ∀ (v : Int32 × Int32) (S : St), k v S = some (r, S') → J K 181 [(0, .ref 122), (1, .int x1), (3, .int x3), (4, .int x4), (5, .int x5), (6, .int v.1), (7, .int v.2)] [] S) (he : ∀ (v : Int32 × Int32) (S : St), e v S = some (r, S') → J K 232 [(0, .ref 122), (1, .int x1), (3, .int x3), (4, .int x4), (5, .int x5), (6, .int v.1)] [] S) {S : St} (hf : f_X11_becomes_224 x1 x3 x4 x5 x7 s0 k e S = some (r, S')) : J K 224 [(0, .ref 122), (1, .int x1), (3, .int x3), (4, .int x4), (5, .int x5), (7, .int x7)] [.int s0] S := by
  unfold f_X11_becomes_224 at hf
  refine j_istore hK (L' := [(6, .int s0), (0, .ref 122), (1, .int x1), (3, .int x3), (4, .int x4), (5, .int x5), (7, .int x7)]) dX11_becomes_224 (by decide) rfl ?_
  refine j_iinc hK (L' := [(7, .int (x7 + (1 : Int32))), (6, .int s0), (0, .ref 122), (1, .int x1), (3, .int x3), (4, .int x4), (5, .int x5)]) dX11_becomes_226 6 rfl (congrArg (fun y => x7 + y) ic_1) (by decide) rfl ?_
  refine j_goto hK 181 dX11_becomes_229 (by decide) ?_
  refine j_sub [2, 3, 4, 5, 6, 1, 0] rfl ?_
  exact hk _ _ hf
def f_X11_becomes_223 (x1 : Int32) (x3 : Int32) (x4 : Int32) (x5 : Int32) (x7 : Int32) (k e : Int32 × Int32 → St → Option (Int32 × St)) (S : St) : Option (Int32 × St) := f_X11_becomes_224 x1 x3 x4 x5 x7 (0 : Int32) k e S
theorem t_X11_becomes_223 {K : CT} (hK : KO K cX11_becomes RX11 8 6 (some .int)) {r : Int32} {S' : St} (hA : zans K = (some (.int r), S')) {x1 : Int32} {x3 : Int32} {x4 : Int32} {x5 : Int32} {x7 : Int32} {k e : Int32 × Int32 → St → Option (Int32 × St)} (hk : ∀ (v : Int32 × Int32) (S : St), k v S = some (r, S') → J K 181 [(0, .ref 122), (1, .int x1), (3, .int x3), (4, .int x4), (5, .int x5), (6, .int v.1), (7, .int v.2)] [] S) (he : ∀ (v : Int32 × Int32) (S : St), e v S = some (r, S') → J K 232 [(0, .ref 122), (1, .int x1), (3, .int x3), (4, .int x4), (5, .int x5), (6, .int v.1)] [] S) {S : St} (hf : f_X11_becomes_223 x1 x3 x4 x5 x7 k e S = some (r, S')) : J K 223 [(0, .ref 122), (1, .int x1), (3, .int x3), (4, .int x4), (5, .int x5), (7, .int x7)] [] S := by
  unfold f_X11_becomes_223 at hf
  refine j_iconst hK (0 : Int32) dX11_becomes_223 ic_0 ?_
  exact t_X11_becomes_224 hK hA hk he hf
def f_X11_becomes_181b (x1 : Int32) (x3 : Int32) (x4 : Int32) (x5 : Int32) (e : Int32 × Int32 → St → Option (Int32 × St)) (k : Int32 × Int32 → St → Option (Int32 × St)) (v : Int32 × Int32) (S : St) : Option (Int32 × St) := (if x1 ≤ v.2 then e (v.1, v.2) S else (if v.1 = 0 then f_X11_becomes_223 x1 x3 x4 x5 v.2 k e S else if inb v.2 6 then bd (f_X11_comesOut 126 (gI S 138 v.2.toNatClampNeg) v.2 S) (fun r6 S7 => if inb v.2 6 then (if r6 = (gI S7 143 v.2.toNatClampNeg) then f_X11_becomes_224 x1 x3 x4 x5 v.2 (1 : Int32) k e S7 else f_X11_becomes_223 x1 x3 x4 x5 v.2 k e S7) else none) else none))
theorem t_X11_becomes_181 {K : CT} (hK : KO K cX11_becomes RX11 8 6 (some .int)) {r : Int32} {S' : St} (hA : zans K = (some (.int r), S')) {x1 : Int32} {x3 : Int32} {x4 : Int32} {x5 : Int32} {e : Int32 × Int32 → St → Option (Int32 × St)} (he : ∀ (v : Int32 × Int32) (S : St), e v S = some (r, S') → J K 232 [(0, .ref 122), (1, .int x1), (3, .int x3), (4, .int x4), (5, .int x5), (6, .int v.1)] [] S) : ∀ (n : Nat) (v : Int32 × Int32) (S : St), lp (f_X11_becomes_181b x1 x3 x4 x5 e) n v S = some (r, S') → J K 181 [(0, .ref 122), (1, .int x1), (3, .int x3), (4, .int x4), (5, .int x5), (6, .int v.1), (7, .int v.2)] [] S :=
  lp_J (P := fun (v : Int32 × Int32) (S : St) => J K 181 [(0, .ref 122), (1, .int x1), (3, .int x3), (4, .int x4), (5, .int x5), (6, .int v.1), (7, .int v.2)] [] S) (fun k hk v S hf => by
    unfold f_X11_becomes_181b at hf
    refine j_iload hK dX11_becomes_181 6 rfl ?_
    refine j_iload_n hK dX11_becomes_183 1 rfl rfl ?_
    refine j_icmp_ge hK 232 dX11_becomes_184 (by decide) (fun hc => ?_) (fun hc => ?_)
    · replace hf := if_1 hc hf
      refine j_sub [0, 1, 2, 3, 4, 5] rfl ?_
      exact he _ _ hf
    · replace hf := if_2 hc hf
      refine j_iload hK dX11_becomes_187 5 rfl ?_
      refine j_if_eq hK 223 dX11_becomes_189 (by decide) (fun hc => ?_) (fun hc => ?_)
      · replace hf := if_1 hc hf
        refine j_sub [0, 1, 2, 3, 4, 6] rfl ?_
        exact t_X11_becomes_223 hK hA hk he hf
      · replace hf := if_2 hc hf
        refine j_aload_n hK dX11_becomes_192 0 rfl rfl ?_
        refine j_aload_n hK dX11_becomes_193 0 rfl rfl ?_
        refine j_getR hK fl_X11_31 dX11_becomes_194 zo_122 zf_11_7 zr_122_7 ?_
        refine j_aload_n hK dX11_becomes_197 0 rfl rfl ?_
        refine j_getR hK fl_X11_68 dX11_becomes_198 zo_122 zf_11_30 zr_122_30 ?_
        refine j_iload hK dX11_becomes_201 6 rfl ?_
        obtain ⟨hi5, hf⟩ := gd hf
        refine k_iald hK dX11_becomes_203 zb_138 hi5 rfl ?_
        refine j_pc (pc' := 204) rfl ?_
        refine j_iload hK dX11_becomes_204 6 rfl ?_
        obtain ⟨r6, S7, h8, hf⟩ := bd_J hf
        refine k_callVi hK (c_X11_comesOut zb_126 h8) dX11_becomes_206 zclX11 zo_122 ml_X11_344 mi_X11_comesOut mx_X11_comesOut in_X11 mc_X11_comesOut hy_X11_comesOut ⟨by decide, by decide⟩ rfl (Nat.le_of_ble_eq_true rfl) ?_
        refine j_aload_n hK dX11_becomes_209 0 rfl rfl ?_
        refine j_getR hK fl_X11_83 dX11_becomes_210 zo_122 zf_11_36 zr_122_36 ?_
        refine j_iload hK dX11_becomes_213 6 rfl ?_
        obtain ⟨hi9, hf⟩ := gd hf
        refine k_iald hK dX11_becomes_215 zb_143 hi9 rfl ?_
        refine j_icmp_ne hK 223 dX11_becomes_216 (by decide) (fun hc => ?_) (fun hc => ?_)
        · replace hf := if_2 hc hf
          refine j_sub [0, 1, 2, 3, 4, 6] rfl ?_
          exact t_X11_becomes_223 hK hA hk he hf
        · replace hf := if_1 hc hf
          refine j_iconst hK (1 : Int32) dX11_becomes_219 ic_1 ?_
          refine j_goto hK 224 dX11_becomes_220 (by decide) ?_
          refine j_sub [0, 1, 2, 3, 4, 6] rfl ?_
          exact t_X11_becomes_224 hK hA hk he hf)
def f_X11_becomes_139b (x1 : Int32) (x4 : Int32) (e : Int32 × Int32 → St → Option (Int32 × St)) (k : Int32 × Int32 → St → Option (Int32 × St)) (v : Int32 × Int32) (S : St) : Option (Int32 × St) := (if (gI S 122 3) ≤ v.2 then e (v.1, v.2) S else bd (f_X11_isEcho 126 x4 v.2 S) (fun r10 S11 => (if r10 = 0 then f_X11_becomes_263 x1 v.1 x4 v.2 k e S11 else bd (f_X11_laysEcho 126 x4 v.2 S11) (fun r13 S14 => lp (f_X11_becomes_181b x1 v.1 x4 v.2 (fun v16 S17 => (if v16.1 = 0 then f_X11_becomes_255 x1 v.1 x4 v.2 v16.1 k e S17 else (if v.1 = 0 then bd (f_X11_enters x4.toInt64 S17) (fun r18 S19 => bd (f_X11_enters v.2.toInt64 S19) (fun r21 S22 => f_X11_becomes_255 x1 v.1 x4 v.2 v16.1 k e S22)) else f_X11_becomes_255 x1 v.1 x4 v.2 v16.1 k e S17)))) FU ((1 : Int32), (0 : Int32)) S14))))
theorem t_X11_becomes_139 {K : CT} (hK : KO K cX11_becomes RX11 8 6 (some .int)) {r : Int32} {S' : St} (hA : zans K = (some (.int r), S')) {x1 : Int32} {x4 : Int32} {e : Int32 × Int32 → St → Option (Int32 × St)} (he : ∀ (v : Int32 × Int32) (S : St), e v S = some (r, S') → J K 269 [(0, .ref 122), (1, .int x1), (3, .int v.1), (4, .int x4)] [] S) : ∀ (n : Nat) (v : Int32 × Int32) (S : St), lp (f_X11_becomes_139b x1 x4 e) n v S = some (r, S') → J K 139 [(0, .ref 122), (1, .int x1), (3, .int v.1), (4, .int x4), (5, .int v.2)] [] S :=
  lp_J (P := fun (v : Int32 × Int32) (S : St) => J K 139 [(0, .ref 122), (1, .int x1), (3, .int v.1), (4, .int x4), (5, .int v.2)] [] S) (fun k hk v S hf => by
    unfold f_X11_becomes_139b at hf
    refine j_iload hK dX11_becomes_139 4 rfl ?_
    refine j_aload_n hK dX11_becomes_141 0 rfl rfl ?_
    refine j_getI hK fl_X11_128 dX11_becomes_142 zo_122 zf_11_3 ?_
    refine j_icmp_ge hK 269 dX11_becomes_145 (by decide) (fun hc => ?_) (fun hc => ?_)
    · replace hf := if_1 hc hf
      refine j_sub [0, 1, 2, 3] rfl ?_
      exact he _ _ hf
    · replace hf := if_2 hc hf
      refine j_aload_n hK dX11_becomes_148 0 rfl rfl ?_
      refine j_aload_n hK dX11_becomes_149 0 rfl rfl ?_
      refine j_getR hK fl_X11_31 dX11_becomes_150 zo_122 zf_11_7 zr_122_7 ?_
      refine j_iload hK dX11_becomes_153 3 rfl ?_
      refine j_iload hK dX11_becomes_155 4 rfl ?_
      obtain ⟨r10, S11, h12, hf⟩ := bd_J hf
      refine k_callVi hK (c_X11_isEcho zb_126 h12) dX11_becomes_157 zclX11 zo_122 ml_X11_326 mi_X11_isEcho mx_X11_isEcho in_X11 mc_X11_isEcho hy_X11_isEcho ⟨by decide, by decide⟩ rfl (Nat.le_of_ble_eq_true rfl) ?_
      refine j_if_eq hK 263 dX11_becomes_160 (by decide) (fun hc => ?_) (fun hc => ?_)
      · replace hf := if_1 hc hf
        exact t_X11_becomes_263 hK hA hk he hf
      · replace hf := if_2 hc hf
        refine j_aload_n hK dX11_becomes_163 0 rfl rfl ?_
        refine j_aload_n hK dX11_becomes_164 0 rfl rfl ?_
        refine j_getR hK fl_X11_31 dX11_becomes_165 zo_122 zf_11_7 zr_122_7 ?_
        refine j_iload hK dX11_becomes_168 3 rfl ?_
        refine j_iload hK dX11_becomes_170 4 rfl ?_
        obtain ⟨r13, S14, h15, hf⟩ := bd_J hf
        refine k_callVv hK (c_X11_laysEcho zb_126 h15) dX11_becomes_172 zclX11 zo_122 ml_X11_336 mi_X11_laysEcho mx_X11_laysEcho in_X11 mc_X11_laysEcho hy_X11_laysEcho ⟨by decide, by decide⟩ rfl (Nat.le_of_ble_eq_true rfl) ?_
        refine j_iconst hK (1 : Int32) dX11_becomes_175 ic_1 ?_
        refine j_pc (pc' := 176) rfl ?_
        refine j_istore hK (L' := [(6, .int (1 : Int32)), (0, .ref 122), (1, .int x1), (3, .int v.1), (4, .int x4), (5, .int v.2)]) dX11_becomes_176 (by decide) rfl ?_
        refine j_iconst hK (0 : Int32) dX11_becomes_178 ic_0 ?_
        refine j_istore hK (L' := [(7, .int (0 : Int32)), (6, .int (1 : Int32)), (0, .ref 122), (1, .int x1), (3, .int v.1), (4, .int x4), (5, .int v.2)]) dX11_becomes_179 (by decide) rfl ?_
        refine j_sub [2, 3, 4, 5, 6, 1, 0] rfl ?_
        refine t_X11_becomes_181 hK hA  (fun v16 S17 hf => ?_) _ _ _ hf
        refine j_iload hK dX11_becomes_232 5 rfl ?_
        refine j_if_eq hK 255 dX11_becomes_234 (by decide) (fun hc => ?_) (fun hc => ?_)
        · replace hf := if_1 hc hf
          exact t_X11_becomes_255 hK hA hk he hf
        · replace hf := if_2 hc hf
          refine j_iload_n hK dX11_becomes_237 2 rfl rfl ?_
          refine j_if_ne hK 255 dX11_becomes_238 (by decide) (fun hc => ?_) (fun hc => ?_)
          · replace hf := if_2 hc hf
            exact t_X11_becomes_255 hK hA hk he hf
          · replace hf := if_1 hc hf
            refine j_aload_n hK dX11_becomes_241 0 rfl rfl ?_
            refine j_iload hK dX11_becomes_242 3 rfl ?_
            refine j_i2l hK dX11_becomes_244 ?_
            obtain ⟨r18, S19, h20, hf⟩ := bd_J hf
            refine k_callVv hK (c_X11_enters h20) dX11_becomes_245 zclX11 zo_122 ml_X11_340 mi_X11_enters mx_X11_enters in_X11 mc_X11_enters hy_X11_enters ⟨by decide, by decide⟩ rfl (Nat.le_of_ble_eq_true rfl) ?_
            refine j_aload_n hK dX11_becomes_248 0 rfl rfl ?_
            refine j_iload hK dX11_becomes_249 4 rfl ?_
            refine j_i2l hK dX11_becomes_251 ?_
            refine j_pc (pc' := 252) rfl ?_
            obtain ⟨r21, S22, h23, hf⟩ := bd_J hf
            refine k_callVv hK (c_X11_enters h23) dX11_becomes_252 zclX11 zo_122 ml_X11_340 mi_X11_enters mx_X11_enters in_X11 mc_X11_enters hy_X11_enters ⟨by decide, by decide⟩ rfl (Nat.le_of_ble_eq_true rfl) ?_
            exact t_X11_becomes_255 hK hA hk he hf)
def f_X11_becomes_129b (x1 : Int32) (e : Int32 × Int32 → St → Option (Int32 × St)) (k : Int32 × Int32 → St → Option (Int32 × St)) (v : Int32 × Int32) (S : St) : Option (Int32 × St) := (if (8 : Int32) ≤ v.2 then e (v.1, v.2) S else lp (f_X11_becomes_139b x1 v.2 (fun v24 S25 => k (v24.1, (v.2 + (1 : Int32))) S25)) FU (v.1, (0 : Int32)) S)
theorem t_X11_becomes_129 {K : CT} (hK : KO K cX11_becomes RX11 8 6 (some .int)) {r : Int32} {S' : St} (hA : zans K = (some (.int r), S')) {x1 : Int32} {e : Int32 × Int32 → St → Option (Int32 × St)} (he : ∀ (v : Int32 × Int32) (S : St), e v S = some (r, S') → J K 275 [(3, .int v.1)] [] S) : ∀ (n : Nat) (v : Int32 × Int32) (S : St), lp (f_X11_becomes_129b x1 e) n v S = some (r, S') → J K 129 [(0, .ref 122), (1, .int x1), (3, .int v.1), (4, .int v.2)] [] S :=
  lp_J (P := fun (v : Int32 × Int32) (S : St) => J K 129 [(0, .ref 122), (1, .int x1), (3, .int v.1), (4, .int v.2)] [] S) (fun k hk v S hf => by
    unfold f_X11_becomes_129b at hf
    refine j_iload hK dX11_becomes_129 3 rfl ?_
    refine j_bipush hK (8 : Int32) dX11_becomes_131 bi_8 ?_
    refine j_icmp_ge hK 275 dX11_becomes_133 (by decide) (fun hc => ?_) (fun hc => ?_)
    · replace hf := if_1 hc hf
      refine j_sub [2] rfl ?_
      exact he _ _ hf
    · replace hf := if_2 hc hf
      refine j_iconst hK (0 : Int32) dX11_becomes_136 ic_0 ?_
      refine j_istore hK (L' := [(5, .int (0 : Int32)), (0, .ref 122), (1, .int x1), (3, .int v.1), (4, .int v.2)]) dX11_becomes_137 (by decide) rfl ?_
      refine j_sub [1, 2, 3, 4, 0] rfl ?_
      refine t_X11_becomes_139 hK hA  (fun v24 S25 hf => ?_) _ _ _ hf
      refine j_iinc hK (L' := [(4, .int (v.2 + (1 : Int32))), (0, .ref 122), (1, .int x1), (3, .int v24.1)]) dX11_becomes_269 3 rfl (congrArg (fun y => v.2 + y) ic_1) (by decide) rfl ?_
      refine j_goto hK 129 dX11_becomes_272 (by decide) ?_
      refine j_sub [1, 2, 3, 0] rfl ?_
      exact hk _ _ hf)
def f_X11_becomes_112 (S : St) : Option (Int32 × St) := some (((-1 : Int32) - (gI S 122 11)), S)
theorem t_X11_becomes_112 {K : CT} (hK : KO K cX11_becomes RX11 8 6 (some .int)) {r : Int32} {S' : St} (hA : zans K = (some (.int r), S')) {S : St} (hf : f_X11_becomes_112  S = some (r, S')) : J K 112 [(0, .ref 122)] [] S := by
  unfold f_X11_becomes_112 at hf
  refine j_iconst hK (-1 : Int32) dX11_becomes_112 ic_m1 ?_
  refine j_aload_n hK dX11_becomes_113 0 rfl rfl ?_
  refine j_getI hK fl_X11_140 dX11_becomes_114 zo_122 zf_11_11 ?_
  refine j_isub hK dX11_becomes_117 ?_
  exact j_iret hK dX11_becomes_118 rfl (rt_I hA hf)
def f_X11_becomes_77 (x1 : Int32) (x2 : Int32) (x3 : Int32) (s1 : Int32) (s2 : Int32) (k e : Int32 × Int32 → St → Option (Int32 × St)) (S : St) : Option (Int32 × St) := if inb s1 6 then lt (sI S 143 s1.toNatClampNeg s2) (fun S27 => bd (f_X11_flag x2 S27) (fun r28 S29 => lt (sI S29 122 11 ((gI S27 122 11) + r28)) (fun S31 => k (x2, (x3 + (1 : Int32))) S31))) else none
theorem t_X11_becomes_77 {K : CT} (hK : KO K cX11_becomes RX11 8 6 (some .int)) {r : Int32} {S' : St} (hA : zans K = (some (.int r), S')) {x1 : Int32} {x2 : Int32} {x3 : Int32} {s1 : Int32} {s2 : Int32} {k e : Int32 × Int32 → St → Option (Int32 × St)} (hk : ∀ (v : Int32 × Int32) (S : St), k v S = some (r, S') → J K 38 [(0, .ref 122), (1, .int x1), (2, .int v.1), (3, .int v.2)] [] S) (he : ∀ (v : Int32 × Int32) (S : St), e v S = some (r, S') → J K 97 [(0, .ref 122), (1, .int x1), (2, .int v.1)] [] S) {S : St} (hf : f_X11_becomes_77 x1 x2 x3 s1 s2 k e S = some (r, S')) : J K 77 [(0, .ref 122), (1, .int x1), (2, .int x2), (3, .int x3)] [.int s2, .int s1, .ref 143] S := by
  unfold f_X11_becomes_77 at hf
  obtain ⟨hi26, hf⟩ := gd hf
  refine k_iast hK dX11_becomes_77 zb_143 hi26 rfl ?_
  refine lt_S hf (fun S27 hf => ?_)
  refine j_aload_n hK dX11_becomes_78 0 rfl rfl ?_
  refine j_dup hK dX11_becomes_79 rfl ?_
  refine j_getI hK fl_X11_140 dX11_becomes_80 zo_122 zf_11_11 ?_
  refine j_iload_n hK dX11_becomes_83 2 rfl rfl ?_
  obtain ⟨r28, S29, h30, hf⟩ := bd_J hf
  refine k_callSi hK (c_X11_flag h30) dX11_becomes_84 ml_X11_155 ms_X11_flag in_X11 mc_X11_flag hy_X11_flag ⟨by decide, by decide⟩ rfl (Nat.le_of_ble_eq_true rfl) ?_
  refine j_iadd hK dX11_becomes_87 ?_
  refine j_putI hK fl_X11_140 dX11_becomes_88 zo_122 zf_11_11 ?_
  refine lt_S hf (fun S31 hf => ?_)
  refine j_pc (pc' := 91) rfl ?_
  refine j_iinc hK (L' := [(3, .int (x3 + (1 : Int32))), (0, .ref 122), (1, .int x1), (2, .int x2)]) dX11_becomes_91 3 rfl (congrArg (fun y => x3 + y) ic_1) (by decide) rfl ?_
  refine j_goto hK 38 dX11_becomes_94 (by decide) ?_
  refine j_sub [1, 2, 3, 0] rfl ?_
  exact hk _ _ hf
def f_X11_becomes_38b (x1 : Int32) (e : Int32 × Int32 → St → Option (Int32 × St)) (k : Int32 × Int32 → St → Option (Int32 × St)) (v : Int32 × Int32) (S : St) : Option (Int32 × St) := (if x1 ≤ v.2 then e (v.1, v.2) S else (if v.1 = 0 then e (v.1, v.2) S else bd (f_X11_isLetter S) (fun r32 S33 => (if r32 = 0 then f_X11_becomes_77 x1 r32 v.2 v.2 (-1 : Int32) k e S33 else if inb (gI S33 122 11) 80 then f_X11_becomes_77 x1 r32 v.2 v.2 ((gI S33 128 (gI S33 122 11).toNatClampNeg) - (97 : Int32)) k e S33 else none))))
theorem t_X11_becomes_38 {K : CT} (hK : KO K cX11_becomes RX11 8 6 (some .int)) {r : Int32} {S' : St} (hA : zans K = (some (.int r), S')) {x1 : Int32} {e : Int32 × Int32 → St → Option (Int32 × St)} (he : ∀ (v : Int32 × Int32) (S : St), e v S = some (r, S') → J K 97 [(0, .ref 122), (1, .int x1), (2, .int v.1)] [] S) : ∀ (n : Nat) (v : Int32 × Int32) (S : St), lp (f_X11_becomes_38b x1 e) n v S = some (r, S') → J K 38 [(0, .ref 122), (1, .int x1), (2, .int v.1), (3, .int v.2)] [] S :=
  lp_J (P := fun (v : Int32 × Int32) (S : St) => J K 38 [(0, .ref 122), (1, .int x1), (2, .int v.1), (3, .int v.2)] [] S) (fun k hk v S hf => by
    unfold f_X11_becomes_38b at hf
    refine j_iload_n hK dX11_becomes_38 3 rfl rfl ?_
    refine j_iload_n hK dX11_becomes_39 1 rfl rfl ?_
    refine j_icmp_ge hK 97 dX11_becomes_40 (by decide) (fun hc => ?_) (fun hc => ?_)
    · replace hf := if_1 hc hf
      refine j_sub [0, 1, 2] rfl ?_
      exact he _ _ hf
    · replace hf := if_2 hc hf
      refine j_iload_n hK dX11_becomes_43 2 rfl rfl ?_
      refine j_if_eq hK 97 dX11_becomes_44 (by decide) (fun hc => ?_) (fun hc => ?_)
      · replace hf := if_1 hc hf
        refine j_sub [0, 1, 2] rfl ?_
        exact he _ _ hf
      · replace hf := if_2 hc hf
        refine j_aload_n hK dX11_becomes_47 0 rfl rfl ?_
        obtain ⟨r32, S33, h34, hf⟩ := bd_J hf
        refine k_callVi hK (c_X11_isLetter h34) dX11_becomes_48 zclX11 zo_122 ml_X11_323 mi_X11_isLetter mx_X11_isLetter in_X11 mc_X11_isLetter hy_X11_isLetter ⟨by decide, by decide⟩ rfl (Nat.le_of_ble_eq_true rfl) ?_
        refine j_istore_n hK (L' := [(2, .int r32), (0, .ref 122), (1, .int x1), (3, .int v.2)]) dX11_becomes_51 rfl (by decide) rfl ?_
        refine j_aload_n hK dX11_becomes_52 1 rfl rfl ?_
        refine j_getR hK fl_X11_83 dX11_becomes_53 zo_122 zf_11_36 zr_122_36 ?_
        refine j_iload_n hK dX11_becomes_56 3 rfl rfl ?_
        refine j_iload_n hK dX11_becomes_57 0 rfl rfl ?_
        refine j_pc (pc' := 58) rfl ?_
        refine j_if_eq hK 76 dX11_becomes_58 (by decide) (fun hc => ?_) (fun hc => ?_)
        · replace hf := if_1 hc hf
          refine j_iconst hK (-1 : Int32) dX11_becomes_76 ic_m1 ?_
          refine j_sub [1, 2, 0, 3] rfl ?_
          exact t_X11_becomes_77 hK hA hk he hf
        · replace hf := if_2 hc hf
          refine j_aload_n hK dX11_becomes_61 1 rfl rfl ?_
          refine j_getR hK fl_X11_37 dX11_becomes_62 zo_122 zf_11_9 zr_122_9 ?_
          refine j_aload_n hK dX11_becomes_65 1 rfl rfl ?_
          refine j_getI hK fl_X11_140 dX11_becomes_66 zo_122 zf_11_11 ?_
          obtain ⟨hi35, hf⟩ := gd hf
          refine k_iald hK dX11_becomes_69 zb_128 hi35 rfl ?_
          refine j_bipush hK (97 : Int32) dX11_becomes_70 bi_97 ?_
          refine j_isub hK dX11_becomes_72 ?_
          refine j_pc (pc' := 73) rfl ?_
          refine j_goto hK 77 dX11_becomes_73 (by decide) ?_
          refine j_sub [1, 2, 0, 3] rfl ?_
          exact t_X11_becomes_77 hK hA hk he hf)
def f_X11_becomes_35 (x1 : Int32) (s0 : Int32) (S : St) : Option (Int32 × St) := lp (f_X11_becomes_38b x1 (fun v36 S37 => (if v36.1 = 0 then f_X11_becomes_112  S37 else (if (gI S37 122 12) ≤ (gI S37 122 11) then lt (sI S37 122 1 (0 : Int32)) (fun S38 => lp (f_X11_becomes_129b x1 (fun v39 S40 => some (v39.1, S40))) FU ((0 : Int32), (0 : Int32)) S38) else f_X11_becomes_112  S37)))) FU (s0, (0 : Int32)) S
theorem t_X11_becomes_35 {K : CT} (hK : KO K cX11_becomes RX11 8 6 (some .int)) {r : Int32} {S' : St} (hA : zans K = (some (.int r), S')) {x1 : Int32} {s0 : Int32} {S : St} (hf : f_X11_becomes_35 x1 s0 S = some (r, S')) : J K 35 [(0, .ref 122), (1, .int x1)] [.int s0] S := by
  unfold f_X11_becomes_35 at hf
  refine j_istore_n hK (L' := [(2, .int s0), (0, .ref 122), (1, .int x1)]) dX11_becomes_35 rfl (by decide) rfl ?_
  refine j_iconst hK (0 : Int32) dX11_becomes_36 ic_0 ?_
  refine j_istore_n hK (L' := [(3, .int (0 : Int32)), (2, .int s0), (0, .ref 122), (1, .int x1)]) dX11_becomes_37 rfl (by decide) rfl ?_
  refine j_sub [2, 3, 1, 0] rfl ?_
  refine t_X11_becomes_38 hK hA  (fun v36 S37 hf => ?_) _ _ _ hf
  refine j_iload_n hK dX11_becomes_97 2 rfl rfl ?_
  refine j_if_eq hK 112 dX11_becomes_98 (by decide) (fun hc => ?_) (fun hc => ?_)
  · replace hf := if_1 hc hf
    refine j_sub [0] rfl ?_
    exact t_X11_becomes_112 hK hA  hf
  · replace hf := if_2 hc hf
    refine j_aload_n hK dX11_becomes_101 0 rfl rfl ?_
    refine j_getI hK fl_X11_140 dX11_becomes_102 zo_122 zf_11_11 ?_
    refine j_aload_n hK dX11_becomes_105 0 rfl rfl ?_
    refine j_getI hK fl_X11_152 dX11_becomes_106 zo_122 zf_11_12 ?_
    refine j_icmp_ge hK 119 dX11_becomes_109 (by decide) (fun hc => ?_) (fun hc => ?_)
    · replace hf := if_1 hc hf
      refine j_iconst hK (0 : Int32) dX11_becomes_119 ic_0 ?_
      refine j_istore_n hK (L' := [(3, .int (0 : Int32)), (0, .ref 122), (1, .int x1), (2, .int v36.1)]) dX11_becomes_120 rfl (by decide) rfl ?_
      refine j_aload_n hK dX11_becomes_121 1 rfl rfl ?_
      refine j_iconst hK (0 : Int32) dX11_becomes_122 ic_0 ?_
      refine j_putI hK fl_X11_15 dX11_becomes_123 zo_122 zf_11_1 ?_
      refine lt_S hf (fun S38 hf => ?_)
      refine j_iconst hK (0 : Int32) dX11_becomes_126 ic_0 ?_
      refine j_istore hK (L' := [(4, .int (0 : Int32)), (3, .int (0 : Int32)), (0, .ref 122), (1, .int x1), (2, .int v36.1)]) dX11_becomes_127 (by decide) rfl ?_
      refine j_sub [2, 3, 1, 0] rfl ?_
      refine t_X11_becomes_129 hK hA  (fun v39 S40 hf => ?_) _ _ _ hf
      refine j_iload_n hK dX11_becomes_275 0 rfl rfl ?_
      exact j_iret hK dX11_becomes_276 rfl (rt_I hA hf)
    · replace hf := if_2 hc hf
      refine j_sub [0] rfl ?_
      exact t_X11_becomes_112 hK hA  hf
def f_X11_becomes_34 (x1 : Int32) (S : St) : Option (Int32 × St) := f_X11_becomes_35 x1 (0 : Int32) S
theorem t_X11_becomes_34 {K : CT} (hK : KO K cX11_becomes RX11 8 6 (some .int)) {r : Int32} {S' : St} (hA : zans K = (some (.int r), S')) {x1 : Int32} {S : St} (hf : f_X11_becomes_34 x1 S = some (r, S')) : J K 34 [(0, .ref 122), (1, .int x1)] [] S := by
  unfold f_X11_becomes_34 at hf
  refine j_iconst hK (0 : Int32) dX11_becomes_34 ic_0 ?_
  exact t_X11_becomes_35 hK hA  hf
def f_X11_becomes (S : St) : Option (Int32 × St) := lt (sI S 122 0 (0 : Int32)) (fun S41 => bd (f_X11_begins (80 : Int32) S41) (fun r42 S43 => bd (f_X11_readsLetters S43) (fun r45 S46 => (if r45 ≤ 0 then f_X11_becomes_34 r45 S46 else bd (f_X11_takes (59 : Int32) S46) (fun r48 S49 => (if r48 = 0 then f_X11_becomes_34 r45 S49 else f_X11_becomes_35 r45 (1 : Int32) S49))))))
theorem c_X11_becomes {S : St} {r : Int32} {S' : St} (hf : f_X11_becomes S = some (r, S')) : zM yX11_becomes cX11_becomes 8 6 (some .int) [.ref 122] S (some (.int r)) S' := by
  refine zM_of (zpl (by decide)) (Nat.le_of_ble_eq_true rfl) rfl (fun K hK hA => ?_)
  unfold f_X11_becomes at hf
  refine j_aload_n hK dX11_becomes_0 0 rfl rfl ?_
  refine j_iconst hK (0 : Int32) dX11_becomes_1 ic_0 ?_
  refine j_putI hK fl_X11_3 dX11_becomes_2 zo_122 zf_11_0 ?_
  refine lt_S hf (fun S41 hf => ?_)
  refine j_aload_n hK dX11_becomes_5 0 rfl rfl ?_
  refine j_bipush hK (80 : Int32) dX11_becomes_6 bi_80 ?_
  obtain ⟨r42, S43, h44, hf⟩ := bd_J hf
  refine k_callVi hK (c_X11_begins h44) dX11_becomes_8 zclX11 zo_122 ml_X11_192 mi_X11_begins mx_X11_begins in_X11 mc_X11_begins hy_X11_begins ⟨by decide, by decide⟩ rfl (Nat.le_of_ble_eq_true rfl) ?_
  refine j_pop hK dX11_becomes_11 rfl ?_
  refine j_aload_n hK dX11_becomes_12 0 rfl rfl ?_
  refine j_pc (pc' := 13) rfl ?_
  obtain ⟨r45, S46, h47, hf⟩ := bd_J hf
  refine k_callVi hK (c_X11_readsLetters h47) dX11_becomes_13 zclX11 zo_122 ml_X11_330 mi_X11_readsLetters mx_X11_readsLetters in_X11 mc_X11_readsLetters hy_X11_readsLetters ⟨by decide, by decide⟩ rfl (Nat.le_of_ble_eq_true rfl) ?_
  refine j_istore_n hK (L' := [(1, .int r45), (0, .ref 122)]) dX11_becomes_16 rfl (by decide) rfl ?_
  refine j_iload_n hK dX11_becomes_17 0 rfl rfl ?_
  refine j_if_le hK 34 dX11_becomes_18 (by decide) (fun hc => ?_) (fun hc => ?_)
  · replace hf := if_1 hc hf
    refine j_sub [1, 0] rfl ?_
    exact t_X11_becomes_34 hK hA  hf
  · replace hf := if_2 hc hf
    refine j_aload_n hK dX11_becomes_21 1 rfl rfl ?_
    refine j_bipush hK (59 : Int32) dX11_becomes_22 bi_59 ?_
    obtain ⟨r48, S49, h50, hf⟩ := bd_J hf
    refine k_callVi hK (c_X11_takes h50) dX11_becomes_24 zclX11 zo_122 ml_X11_198 mi_X11_takes mx_X11_takes in_X11 mc_X11_takes hy_X11_takes ⟨by decide, by decide⟩ rfl (Nat.le_of_ble_eq_true rfl) ?_
    refine j_if_eq hK 34 dX11_becomes_27 (by decide) (fun hc => ?_) (fun hc => ?_)
    · replace hf := if_1 hc hf
      refine j_sub [1, 0] rfl ?_
      exact t_X11_becomes_34 hK hA  hf
    · replace hf := if_2 hc hf
      refine j_iconst hK (1 : Int32) dX11_becomes_30 ic_1 ?_
      refine j_goto hK 35 dX11_becomes_31 (by decide) ?_
      refine j_sub [1, 0] rfl ?_
      exact t_X11_becomes_35 hK hA  hf
def f_X11_kept_30 (x1 : Int32) (x3 : Int32) (s0 : Int32) (s1 : Int32) (k e : Int32 × Int32 → St → Option (Int32 × St)) (S : St) : Option (Int32 × St) := bd (f_X11_flag s1 S) (fun r1 S2 => lt (s0 + r1) (fun y4 => k (y4, (x3 + (1 : Int32))) S2))
theorem t_X11_kept_30 {K : CT} (hK : KO K cX11_kept RX11 4 6 (some .int)) {r : Int32} {S' : St} (hA : zans K = (some (.int r), S')) {x1 : Int32} {x3 : Int32} {s0 : Int32} {s1 : Int32} {k e : Int32 × Int32 → St → Option (Int32 × St)} (hk : ∀ (v : Int32 × Int32) (S : St), k v S = some (r, S') → J K 4 [(0, .ref 122), (1, .int x1), (2, .int v.1), (3, .int v.2)] [] S) (he : ∀ (v : Int32 × Int32) (S : St), e v S = some (r, S') → J K 41 [(2, .int v.1)] [] S) {S : St} (hf : f_X11_kept_30 x1 x3 s0 s1 k e S = some (r, S')) : J K 30 [(0, .ref 122), (1, .int x1), (3, .int x3)] [.int s1, .int s0] S := by
  unfold f_X11_kept_30 at hf
  obtain ⟨r1, S2, h3, hf⟩ := bd_J hf
  refine k_callSi hK (c_X11_flag h3) dX11_kept_30 ml_X11_155 ms_X11_flag in_X11 mc_X11_flag hy_X11_flag ⟨by decide, by decide⟩ rfl (Nat.le_of_ble_eq_true rfl) ?_
  refine j_iadd hK dX11_kept_33 ?_
  refine lt_I hf (fun y4 hf => ?_)
  refine j_istore_n hK (L' := [(2, .int y4), (0, .ref 122), (1, .int x1), (3, .int x3)]) dX11_kept_34 rfl (by decide) rfl ?_
  refine j_iinc hK (L' := [(3, .int (x3 + (1 : Int32))), (2, .int y4), (0, .ref 122), (1, .int x1)]) dX11_kept_35 3 rfl (congrArg (fun y => x3 + y) ic_1) (by decide) rfl ?_
  refine j_goto hK 4 dX11_kept_38 (by decide) ?_
  refine j_sub [2, 3, 1, 0] rfl ?_
  exact hk _ _ hf
def f_X11_kept_4b (x1 : Int32) (e : Int32 × Int32 → St → Option (Int32 × St)) (k : Int32 × Int32 → St → Option (Int32 × St)) (v : Int32 × Int32) (S : St) : Option (Int32 × St) := (if (8 : Int32) ≤ v.2 then e (v.1, v.2) S else bd (f_X11_comesOut 126 v.2 x1 S) (fun r5 S6 => (if r5 = v.2 then f_X11_kept_30 x1 v.2 v.1 (1 : Int32) k e S6 else f_X11_kept_30 x1 v.2 v.1 (0 : Int32) k e S6)))
theorem t_X11_kept_4 {K : CT} (hK : KO K cX11_kept RX11 4 6 (some .int)) {r : Int32} {S' : St} (hA : zans K = (some (.int r), S')) {x1 : Int32} {e : Int32 × Int32 → St → Option (Int32 × St)} (he : ∀ (v : Int32 × Int32) (S : St), e v S = some (r, S') → J K 41 [(2, .int v.1)] [] S) : ∀ (n : Nat) (v : Int32 × Int32) (S : St), lp (f_X11_kept_4b x1 e) n v S = some (r, S') → J K 4 [(0, .ref 122), (1, .int x1), (2, .int v.1), (3, .int v.2)] [] S :=
  lp_J (P := fun (v : Int32 × Int32) (S : St) => J K 4 [(0, .ref 122), (1, .int x1), (2, .int v.1), (3, .int v.2)] [] S) (fun k hk v S hf => by
    unfold f_X11_kept_4b at hf
    refine j_iload_n hK dX11_kept_4 3 rfl rfl ?_
    refine j_bipush hK (8 : Int32) dX11_kept_5 bi_8 ?_
    refine j_icmp_ge hK 41 dX11_kept_7 (by decide) (fun hc => ?_) (fun hc => ?_)
    · replace hf := if_1 hc hf
      refine j_sub [2] rfl ?_
      exact he _ _ hf
    · replace hf := if_2 hc hf
      refine j_iload_n hK dX11_kept_10 2 rfl rfl ?_
      refine j_aload_n hK dX11_kept_11 0 rfl rfl ?_
      refine j_aload_n hK dX11_kept_12 0 rfl rfl ?_
      refine j_getR hK fl_X11_31 dX11_kept_13 zo_122 zf_11_7 zr_122_7 ?_
      refine j_iload_n hK dX11_kept_16 3 rfl rfl ?_
      refine j_iload_n hK dX11_kept_17 1 rfl rfl ?_
      obtain ⟨r5, S6, h7, hf⟩ := bd_J hf
      refine k_callVi hK (c_X11_comesOut zb_126 h7) dX11_kept_18 zclX11 zo_122 ml_X11_344 mi_X11_comesOut mx_X11_comesOut in_X11 mc_X11_comesOut hy_X11_comesOut ⟨by decide, by decide⟩ rfl (Nat.le_of_ble_eq_true rfl) ?_
      refine j_pc (pc' := 21) rfl ?_
      refine j_iload_n hK dX11_kept_21 3 rfl rfl ?_
      refine j_icmp_ne hK 29 dX11_kept_22 (by decide) (fun hc => ?_) (fun hc => ?_)
      · replace hf := if_2 hc hf
        refine j_iconst hK (0 : Int32) dX11_kept_29 ic_0 ?_
        refine j_sub [0, 1, 3] rfl ?_
        exact t_X11_kept_30 hK hA hk he hf
      · replace hf := if_1 hc hf
        refine j_iconst hK (1 : Int32) dX11_kept_25 ic_1 ?_
        refine j_goto hK 30 dX11_kept_26 (by decide) ?_
        refine j_sub [0, 1, 3] rfl ?_
        exact t_X11_kept_30 hK hA hk he hf)
def f_X11_kept (p1 : Int32) (S : St) : Option (Int32 × St) := lp (f_X11_kept_4b p1 (fun v8 S9 => some (v8.1, S9))) FU ((0 : Int32), (0 : Int32)) S
theorem c_X11_kept {p1 : Int32} {S : St} {r : Int32} {S' : St} (hf : f_X11_kept p1 S = some (r, S')) : zM yX11_kept cX11_kept 4 6 (some .int) [.ref 122, .int p1] S (some (.int r)) S' := by
  refine zM_of (zpl (by decide)) (Nat.le_of_ble_eq_true rfl) rfl (fun K hK hA => ?_)
  unfold f_X11_kept at hf
  refine j_iconst hK (0 : Int32) dX11_kept_0 ic_0 ?_
  refine j_istore_n hK (L' := [(2, .int (0 : Int32)), (0, .ref 122), (1, .int p1)]) dX11_kept_1 rfl (by decide) rfl ?_
  refine j_iconst hK (0 : Int32) dX11_kept_2 ic_0 ?_
  refine j_istore_n hK (L' := [(3, .int (0 : Int32)), (2, .int (0 : Int32)), (0, .ref 122), (1, .int p1)]) dX11_kept_3 rfl (by decide) rfl ?_
  refine j_sub [2, 3, 1, 0] rfl ?_
  refine t_X11_kept_4 hK hA  (fun v8 S9 hf => ?_) _ _ _ hf
  refine j_iload_n hK dX11_kept_41 0 rfl rfl ?_
  exact j_iret hK dX11_kept_42 rfl (rt_I hA hf)
def f_X11_keeps_40b (e : Int32 × Int32 → St → Option (Int32 × St)) (k : Int32 × Int32 → St → Option (Int32 × St)) (v : Int32 × Int32) (S : St) : Option (Int32 × St) := (if (6 : Int32) ≤ v.2 then e (v.1, v.2) S else bd (f_X11_kept v.2 S) (fun r1 S2 => lt (v.1 + r1) (fun y4 => bd (f_X11_kept v.2 S2) (fun r5 S6 => bd (f_X11_enters r5.toInt64 S6) (fun r8 S9 => k (y4, (v.2 + (1 : Int32))) S9)))))
theorem t_X11_keeps_40 {K : CT} (hK : KO K cX11_keeps RX11 5 7 (some .int)) {r : Int32} {S' : St} (hA : zans K = (some (.int r), S')) {e : Int32 × Int32 → St → Option (Int32 × St)} (he : ∀ (v : Int32 × Int32) (S : St), e v S = some (r, S') → J K 73 [(3, .int v.1)] [] S) : ∀ (n : Nat) (v : Int32 × Int32) (S : St), lp (f_X11_keeps_40b  e) n v S = some (r, S') → J K 40 [(0, .ref 122), (3, .int v.1), (4, .int v.2)] [] S :=
  lp_J (P := fun (v : Int32 × Int32) (S : St) => J K 40 [(0, .ref 122), (3, .int v.1), (4, .int v.2)] [] S) (fun k hk v S hf => by
    unfold f_X11_keeps_40b at hf
    refine j_iload hK dX11_keeps_40 2 rfl ?_
    refine j_bipush hK (6 : Int32) dX11_keeps_42 bi_6 ?_
    refine j_icmp_ge hK 73 dX11_keeps_44 (by decide) (fun hc => ?_) (fun hc => ?_)
    · replace hf := if_1 hc hf
      refine j_sub [1] rfl ?_
      exact he _ _ hf
    · replace hf := if_2 hc hf
      refine j_iload_n hK dX11_keeps_47 1 rfl rfl ?_
      refine j_aload_n hK dX11_keeps_48 0 rfl rfl ?_
      refine j_iload hK dX11_keeps_49 2 rfl ?_
      obtain ⟨r1, S2, h3, hf⟩ := bd_J hf
      refine k_callVi hK (c_X11_kept h3) dX11_keeps_51 zclX11 zo_122 ml_X11_387 mi_X11_kept mx_X11_kept in_X11 mc_X11_kept hy_X11_kept ⟨by decide, by decide⟩ rfl (Nat.le_of_ble_eq_true rfl) ?_
      refine j_iadd hK dX11_keeps_54 ?_
      refine lt_I hf (fun y4 hf => ?_)
      refine j_istore_n hK (L' := [(3, .int y4), (0, .ref 122), (4, .int v.2)]) dX11_keeps_55 rfl (by decide) rfl ?_
      refine j_aload_n hK dX11_keeps_56 1 rfl rfl ?_
      refine j_pc (pc' := 57) rfl ?_
      refine j_aload_n hK dX11_keeps_57 1 rfl rfl ?_
      refine j_iload hK dX11_keeps_58 2 rfl ?_
      obtain ⟨r5, S6, h7, hf⟩ := bd_J hf
      refine k_callVi hK (c_X11_kept h7) dX11_keeps_60 zclX11 zo_122 ml_X11_387 mi_X11_kept mx_X11_kept in_X11 mc_X11_kept hy_X11_kept ⟨by decide, by decide⟩ rfl (Nat.le_of_ble_eq_true rfl) ?_
      refine j_i2l hK dX11_keeps_63 ?_
      obtain ⟨r8, S9, h10, hf⟩ := bd_J hf
      refine k_callVv hK (c_X11_enters h10) dX11_keeps_64 zclX11 zo_122 ml_X11_340 mi_X11_enters mx_X11_enters in_X11 mc_X11_enters hy_X11_enters ⟨by decide, by decide⟩ rfl (Nat.le_of_ble_eq_true rfl) ?_
      refine j_iinc hK (L' := [(4, .int (v.2 + (1 : Int32))), (3, .int y4), (0, .ref 122)]) dX11_keeps_67 2 rfl (congrArg (fun y => v.2 + y) ic_1) (by decide) rfl ?_
      refine j_goto hK 40 dX11_keeps_70 (by decide) ?_
      refine j_sub [2, 1, 0] rfl ?_
      exact hk _ _ hf)
def f_X11_keeps (p1 : Int32) (p2 : Int32) (S : St) : Option (Int32 × St) := lt (sI S 122 0 (0 : Int32)) (fun S11 => bd (f_X11_isEcho 126 p1 p2 S11) (fun r12 S13 => (if r12 = 0 then some ((-1 : Int32), S13) else bd (f_X11_laysEcho 126 p1 p2 S13) (fun r15 S16 => lt (sI S16 122 1 (0 : Int32)) (fun S18 => lp (f_X11_keeps_40b  (fun v19 S20 => some (v19.1, S20))) FU ((0 : Int32), (0 : Int32)) S18)))))
theorem c_X11_keeps {p1 : Int32} {p2 : Int32} {S : St} {r : Int32} {S' : St} (hf : f_X11_keeps p1 p2 S = some (r, S')) : zM yX11_keeps cX11_keeps 5 7 (some .int) [.ref 122, .int p1, .int p2] S (some (.int r)) S' := by
  refine zM_of (zpl (by decide)) (Nat.le_of_ble_eq_true rfl) rfl (fun K hK hA => ?_)
  unfold f_X11_keeps at hf
  refine j_aload_n hK dX11_keeps_0 0 rfl rfl ?_
  refine j_iconst hK (0 : Int32) dX11_keeps_1 ic_0 ?_
  refine j_putI hK fl_X11_3 dX11_keeps_2 zo_122 zf_11_0 ?_
  refine lt_S hf (fun S11 hf => ?_)
  refine j_aload_n hK dX11_keeps_5 0 rfl rfl ?_
  refine j_aload_n hK dX11_keeps_6 0 rfl rfl ?_
  refine j_getR hK fl_X11_31 dX11_keeps_7 zo_122 zf_11_7 zr_122_7 ?_
  refine j_iload_n hK dX11_keeps_10 1 rfl rfl ?_
  refine j_iload_n hK dX11_keeps_11 2 rfl rfl ?_
  refine j_pc (pc' := 12) rfl ?_
  obtain ⟨r12, S13, h14, hf⟩ := bd_J hf
  refine k_callVi hK (c_X11_isEcho zb_126 h14) dX11_keeps_12 zclX11 zo_122 ml_X11_326 mi_X11_isEcho mx_X11_isEcho in_X11 mc_X11_isEcho hy_X11_isEcho ⟨by decide, by decide⟩ rfl (Nat.le_of_ble_eq_true rfl) ?_
  refine j_if_ne hK 20 dX11_keeps_15 (by decide) (fun hc => ?_) (fun hc => ?_)
  · replace hf := if_2 hc hf
    refine j_aload_n hK dX11_keeps_20 0 rfl rfl ?_
    refine j_aload_n hK dX11_keeps_21 0 rfl rfl ?_
    refine j_getR hK fl_X11_31 dX11_keeps_22 zo_122 zf_11_7 zr_122_7 ?_
    refine j_iload_n hK dX11_keeps_25 1 rfl rfl ?_
    refine j_iload_n hK dX11_keeps_26 2 rfl rfl ?_
    obtain ⟨r15, S16, h17, hf⟩ := bd_J hf
    refine k_callVv hK (c_X11_laysEcho zb_126 h17) dX11_keeps_27 zclX11 zo_122 ml_X11_336 mi_X11_laysEcho mx_X11_laysEcho in_X11 mc_X11_laysEcho hy_X11_laysEcho ⟨by decide, by decide⟩ rfl (Nat.le_of_ble_eq_true rfl) ?_
    refine j_iconst hK (0 : Int32) dX11_keeps_30 ic_0 ?_
    refine j_pc (pc' := 31) rfl ?_
    refine j_istore_n hK (L' := [(3, .int (0 : Int32)), (0, .ref 122), (1, .int p1), (2, .int p2)]) dX11_keeps_31 rfl (by decide) rfl ?_
    refine j_aload_n hK dX11_keeps_32 1 rfl rfl ?_
    refine j_iconst hK (0 : Int32) dX11_keeps_33 ic_0 ?_
    refine j_putI hK fl_X11_15 dX11_keeps_34 zo_122 zf_11_1 ?_
    refine lt_S hf (fun S18 hf => ?_)
    refine j_iconst hK (0 : Int32) dX11_keeps_37 ic_0 ?_
    refine j_istore hK (L' := [(4, .int (0 : Int32)), (3, .int (0 : Int32)), (0, .ref 122), (1, .int p1), (2, .int p2)]) dX11_keeps_38 (by decide) rfl ?_
    refine j_sub [2, 1, 0] rfl ?_
    refine t_X11_keeps_40 hK hA  (fun v19 S20 hf => ?_) _ _ _ hf
    refine j_iload_n hK dX11_keeps_73 0 rfl rfl ?_
    exact j_iret hK dX11_keeps_74 rfl (rt_I hA hf)
  · replace hf := if_1 hc hf
    refine j_iconst hK (-1 : Int32) dX11_keeps_18 ic_m1 ?_
    exact j_iret hK dX11_keeps_19 rfl (rt_I hA hf)
def f_X11_apart_128 (x3 : Int32) (x4 : Int32) (x5 : Int32) (x6 : Int32) (x8 : Int32) (x9 : Int32) (x10 : Int32) (s0 : Int32) (s1 : Int32) (k e : Int32 × Int32 × Int32 → St → Option (Int32 × St)) (S : St) : Option (Int32 × St) := bd (f_X11_flag s1 S) (fun r1 S2 => lt (s0 + r1) (fun y4 => if inb x10 8 then if inb x10 8 then lt (sI S2 144 x10.toNatClampNeg ((gI S2 144 x10.toNatClampNeg) + (1 : Int32))) (fun S7 => if inb x10 8 then lt (mxI x8 (gI S7 144 x10.toNatClampNeg)) (fun y9 => k (y4, y9, (x9 + (1 : Int32))) S7) else none) else none else none))
theorem t_X11_apart_128 {K : CT} (hK : KO K cX11_apart RX11 11 6 (some .int)) {r : Int32} {S' : St} (hA : zans K = (some (.int r), S')) {x3 : Int32} {x4 : Int32} {x5 : Int32} {x6 : Int32} {x8 : Int32} {x9 : Int32} {x10 : Int32} {s0 : Int32} {s1 : Int32} {k e : Int32 × Int32 × Int32 → St → Option (Int32 × St)} (hk : ∀ (v : Int32 × Int32 × Int32) (S : St), k v S = some (r, S') → J K 90 [(0, .ref 122), (3, .int x3), (4, .int x4), (5, .int x5), (6, .int x6), (7, .int v.1), (8, .int v.2.1), (9, .int v.2.2)] [] S) (he : ∀ (v : Int32 × Int32 × Int32) (S : St), e v S = some (r, S') → J K 165 [(0, .ref 122), (3, .int x3), (4, .int x4), (5, .int x5), (6, .int x6), (7, .int v.1), (8, .int v.2.1)] [] S) {S : St} (hf : f_X11_apart_128 x3 x4 x5 x6 x8 x9 x10 s0 s1 k e S = some (r, S')) : J K 128 [(0, .ref 122), (3, .int x3), (4, .int x4), (5, .int x5), (6, .int x6), (8, .int x8), (9, .int x9), (10, .int x10)] [.int s1, .int s0] S := by
  unfold f_X11_apart_128 at hf
  obtain ⟨r1, S2, h3, hf⟩ := bd_J hf
  refine k_callSi hK (c_X11_flag h3) dX11_apart_128 ml_X11_155 ms_X11_flag in_X11 mc_X11_flag hy_X11_flag ⟨by decide, by decide⟩ rfl (Nat.le_of_ble_eq_true rfl) ?_
  refine j_iadd hK dX11_apart_131 ?_
  refine lt_I hf (fun y4 hf => ?_)
  refine j_istore hK (L' := [(7, .int y4), (0, .ref 122), (3, .int x3), (4, .int x4), (5, .int x5), (6, .int x6), (8, .int x8), (9, .int x9), (10, .int x10)]) dX11_apart_132 (by decide) rfl ?_
  refine j_aload_n hK dX11_apart_134 1 rfl rfl ?_
  refine j_getR hK fl_X11_86 dX11_apart_135 zo_122 zf_11_37 zr_122_37 ?_
  refine j_iload hK dX11_apart_138 8 rfl ?_
  refine j_dup2 hK dX11_apart_140 rfl rfl ?_
  obtain ⟨hi5, hf⟩ := gd hf
  refine k_iald hK dX11_apart_141 zb_144 hi5 rfl ?_
  refine j_pc (pc' := 142) rfl ?_
  refine j_iconst hK (1 : Int32) dX11_apart_142 ic_1 ?_
  refine j_iadd hK dX11_apart_143 ?_
  obtain ⟨hi6, hf⟩ := gd hf
  refine k_iast hK dX11_apart_144 zb_144 hi6 rfl ?_
  refine lt_S hf (fun S7 hf => ?_)
  refine j_iload hK dX11_apart_145 6 rfl ?_
  refine j_aload_n hK dX11_apart_147 1 rfl rfl ?_
  refine j_getR hK fl_X11_86 dX11_apart_148 zo_122 zf_11_37 zr_122_37 ?_
  refine j_iload hK dX11_apart_151 8 rfl ?_
  obtain ⟨hi8, hf⟩ := gd hf
  refine k_iald hK dX11_apart_153 zb_144 hi8 rfl ?_
  refine j_pc (pc' := 154) rfl ?_
  refine j_max hK ml_X11_297 dX11_apart_154 (by decide) (Nat.le_of_ble_eq_true rfl) ?_
  refine lt_I hf (fun y9 hf => ?_)
  refine j_istore hK (L' := [(8, .int y9), (7, .int y4), (0, .ref 122), (3, .int x3), (4, .int x4), (5, .int x5), (6, .int x6), (9, .int x9), (10, .int x10)]) dX11_apart_157 (by decide) rfl ?_
  refine j_iinc hK (L' := [(9, .int (x9 + (1 : Int32))), (8, .int y9), (7, .int y4), (0, .ref 122), (3, .int x3), (4, .int x4), (5, .int x5), (6, .int x6), (10, .int x10)]) dX11_apart_159 7 rfl (congrArg (fun y => x9 + y) ic_1) (by decide) rfl ?_
  refine j_goto hK 90 dX11_apart_162 (by decide) ?_
  refine j_sub [3, 4, 5, 6, 7, 2, 1, 0] rfl ?_
  exact hk _ _ hf
def f_X11_apart_90b (x3 : Int32) (x4 : Int32) (x5 : Int32) (x6 : Int32) (e : Int32 × Int32 × Int32 → St → Option (Int32 × St)) (k : Int32 × Int32 × Int32 → St → Option (Int32 × St)) (v : Int32 × Int32 × Int32) (S : St) : Option (Int32 × St) := (if (8 : Int32) ≤ v.2.2 then e (v.1, v.2.1, v.2.2) S else bd (f_X11_comesOut 126 v.2.2 x6 S) (fun r10 S11 => if inb r10 8 then (if (gI S11 144 r10.toNatClampNeg) = 0 then f_X11_apart_128 x3 x4 x5 x6 v.2.1 v.2.2 r10 v.1 (1 : Int32) k e S11 else f_X11_apart_128 x3 x4 x5 x6 v.2.1 v.2.2 r10 v.1 (0 : Int32) k e S11) else none))
theorem t_X11_apart_90 {K : CT} (hK : KO K cX11_apart RX11 11 6 (some .int)) {r : Int32} {S' : St} (hA : zans K = (some (.int r), S')) {x3 : Int32} {x4 : Int32} {x5 : Int32} {x6 : Int32} {e : Int32 × Int32 × Int32 → St → Option (Int32 × St)} (he : ∀ (v : Int32 × Int32 × Int32) (S : St), e v S = some (r, S') → J K 165 [(0, .ref 122), (3, .int x3), (4, .int x4), (5, .int x5), (6, .int x6), (7, .int v.1), (8, .int v.2.1)] [] S) : ∀ (n : Nat) (v : Int32 × Int32 × Int32) (S : St), lp (f_X11_apart_90b x3 x4 x5 x6 e) n v S = some (r, S') → J K 90 [(0, .ref 122), (3, .int x3), (4, .int x4), (5, .int x5), (6, .int x6), (7, .int v.1), (8, .int v.2.1), (9, .int v.2.2)] [] S :=
  lp_J (P := fun (v : Int32 × Int32 × Int32) (S : St) => J K 90 [(0, .ref 122), (3, .int x3), (4, .int x4), (5, .int x5), (6, .int x6), (7, .int v.1), (8, .int v.2.1), (9, .int v.2.2)] [] S) (fun k hk v S hf => by
    unfold f_X11_apart_90b at hf
    refine j_iload hK dX11_apart_90 7 rfl ?_
    refine j_bipush hK (8 : Int32) dX11_apart_92 bi_8 ?_
    refine j_icmp_ge hK 165 dX11_apart_94 (by decide) (fun hc => ?_) (fun hc => ?_)
    · replace hf := if_1 hc hf
      refine j_sub [0, 1, 2, 3, 4, 5, 6] rfl ?_
      exact he _ _ hf
    · replace hf := if_2 hc hf
      refine j_aload_n hK dX11_apart_97 0 rfl rfl ?_
      refine j_aload_n hK dX11_apart_98 0 rfl rfl ?_
      refine j_getR hK fl_X11_31 dX11_apart_99 zo_122 zf_11_7 zr_122_7 ?_
      refine j_iload hK dX11_apart_102 7 rfl ?_
      refine j_iload hK dX11_apart_104 4 rfl ?_
      obtain ⟨r10, S11, h12, hf⟩ := bd_J hf
      refine k_callVi hK (c_X11_comesOut zb_126 h12) dX11_apart_106 zclX11 zo_122 ml_X11_344 mi_X11_comesOut mx_X11_comesOut in_X11 mc_X11_comesOut hy_X11_comesOut ⟨by decide, by decide⟩ rfl (Nat.le_of_ble_eq_true rfl) ?_
      refine j_istore hK (L' := [(10, .int r10), (0, .ref 122), (3, .int x3), (4, .int x4), (5, .int x5), (6, .int x6), (7, .int v.1), (8, .int v.2.1), (9, .int v.2.2)]) dX11_apart_109 (by decide) rfl ?_
      refine j_pc (pc' := 111) rfl ?_
      refine j_iload hK dX11_apart_111 6 rfl ?_
      refine j_aload_n hK dX11_apart_113 1 rfl rfl ?_
      refine j_getR hK fl_X11_86 dX11_apart_114 zo_122 zf_11_37 zr_122_37 ?_
      refine j_iload hK dX11_apart_117 0 rfl ?_
      obtain ⟨hi13, hf⟩ := gd hf
      refine k_iald hK dX11_apart_119 zb_144 hi13 rfl ?_
      refine j_if_ne hK 127 dX11_apart_120 (by decide) (fun hc => ?_) (fun hc => ?_)
      · replace hf := if_2 hc hf
        refine j_iconst hK (0 : Int32) dX11_apart_127 ic_0 ?_
        refine j_sub [1, 2, 3, 4, 5, 7, 8, 0] rfl ?_
        exact t_X11_apart_128 hK hA hk he hf
      · replace hf := if_1 hc hf
        refine j_iconst hK (1 : Int32) dX11_apart_123 ic_1 ?_
        refine j_goto hK 128 dX11_apart_124 (by decide) ?_
        refine j_sub [1, 2, 3, 4, 5, 7, 8, 0] rfl ?_
        exact t_X11_apart_128 hK hA hk he hf)
def f_X11_apart_66b (x3 : Int32) (x4 : Int32) (x5 : Int32) (x6 : Int32) (x7 : Int32) (x8 : Int32) (e : Int32 → St → Option (Int32 × St)) (k : Int32 → St → Option (Int32 × St)) (v : Int32) (S : St) : Option (Int32 × St) := (if (8 : Int32) ≤ v then e v S else if inb v 8 then lt (sI S 144 v.toNatClampNeg (0 : Int32)) (fun S15 => k (v + (1 : Int32)) S15) else none)
theorem t_X11_apart_66 {K : CT} (hK : KO K cX11_apart RX11 11 6 (some .int)) {r : Int32} {S' : St} (hA : zans K = (some (.int r), S')) {x3 : Int32} {x4 : Int32} {x5 : Int32} {x6 : Int32} {x7 : Int32} {x8 : Int32} {e : Int32 → St → Option (Int32 × St)} (he : ∀ (v : Int32) (S : St), e v S = some (r, S') → J K 87 [(0, .ref 122), (3, .int x3), (4, .int x4), (5, .int x5), (6, .int x6), (7, .int x7), (8, .int x8)] [] S) : ∀ (n : Nat) (v : Int32) (S : St), lp (f_X11_apart_66b x3 x4 x5 x6 x7 x8 e) n v S = some (r, S') → J K 66 [(0, .ref 122), (3, .int x3), (4, .int x4), (5, .int x5), (6, .int x6), (7, .int x7), (8, .int x8), (9, .int v)] [] S :=
  lp_J (P := fun (v : Int32) (S : St) => J K 66 [(0, .ref 122), (3, .int x3), (4, .int x4), (5, .int x5), (6, .int x6), (7, .int x7), (8, .int x8), (9, .int v)] [] S) (fun k hk v S hf => by
    unfold f_X11_apart_66b at hf
    refine j_iload hK dX11_apart_66 7 rfl ?_
    refine j_bipush hK (8 : Int32) dX11_apart_68 bi_8 ?_
    refine j_icmp_ge hK 87 dX11_apart_70 (by decide) (fun hc => ?_) (fun hc => ?_)
    · replace hf := if_1 hc hf
      refine j_sub [0, 1, 2, 3, 4, 5, 6] rfl ?_
      exact he _ _ hf
    · replace hf := if_2 hc hf
      refine j_aload_n hK dX11_apart_73 0 rfl rfl ?_
      refine j_getR hK fl_X11_86 dX11_apart_74 zo_122 zf_11_37 zr_122_37 ?_
      refine j_iload hK dX11_apart_77 7 rfl ?_
      refine j_iconst hK (0 : Int32) dX11_apart_79 ic_0 ?_
      obtain ⟨hi14, hf⟩ := gd hf
      refine k_iast hK dX11_apart_80 zb_144 hi14 rfl ?_
      refine lt_S hf (fun S15 hf => ?_)
      refine j_iinc hK (L' := [(9, .int (v + (1 : Int32))), (0, .ref 122), (3, .int x3), (4, .int x4), (5, .int x5), (6, .int x6), (7, .int x7), (8, .int x8)]) dX11_apart_81 7 rfl (congrArg (fun y => v + y) ic_1) (by decide) rfl ?_
      refine j_goto hK 66 dX11_apart_84 (by decide) ?_
      refine j_sub [1, 2, 3, 4, 5, 6, 7, 0] rfl ?_
      exact hk _ _ hf)
def f_X11_apart_51b (x3 : Int32) (e : Int32 × Int32 × Int32 → St → Option (Int32 × St)) (k : Int32 × Int32 × Int32 → St → Option (Int32 × St)) (v : Int32 × Int32 × Int32) (S : St) : Option (Int32 × St) := (if x3 ≤ v.2.2 then e (v.1, v.2.1, v.2.2) S else lp (f_X11_apart_66b x3 v.1 v.2.1 v.2.2 (0 : Int32) (0 : Int32) (fun v16 S17 => lp (f_X11_apart_90b x3 v.1 v.2.1 v.2.2 (fun v18 S19 => lt (v.1 * v18.1) (fun y20 => lt (v.2.1 * v18.2.1) (fun y21 => k (y20, y21, (v.2.2 + (1 : Int32))) S19)))) FU ((0 : Int32), (0 : Int32), (0 : Int32)) S17)) FU (0 : Int32) S)
theorem t_X11_apart_51 {K : CT} (hK : KO K cX11_apart RX11 11 6 (some .int)) {r : Int32} {S' : St} (hA : zans K = (some (.int r), S')) {x3 : Int32} {e : Int32 × Int32 × Int32 → St → Option (Int32 × St)} (he : ∀ (v : Int32 × Int32 × Int32) (S : St), e v S = some (r, S') → J K 185 [(0, .ref 122), (4, .int v.1), (5, .int v.2.1)] [] S) : ∀ (n : Nat) (v : Int32 × Int32 × Int32) (S : St), lp (f_X11_apart_51b x3 e) n v S = some (r, S') → J K 51 [(0, .ref 122), (3, .int x3), (4, .int v.1), (5, .int v.2.1), (6, .int v.2.2)] [] S :=
  lp_J (P := fun (v : Int32 × Int32 × Int32) (S : St) => J K 51 [(0, .ref 122), (3, .int x3), (4, .int v.1), (5, .int v.2.1), (6, .int v.2.2)] [] S) (fun k hk v S hf => by
    unfold f_X11_apart_51b at hf
    refine j_iload hK dX11_apart_51 4 rfl ?_
    refine j_iload_n hK dX11_apart_53 1 rfl rfl ?_
    refine j_icmp_ge hK 185 dX11_apart_54 (by decide) (fun hc => ?_) (fun hc => ?_)
    · replace hf := if_1 hc hf
      refine j_sub [0, 2, 3] rfl ?_
      exact he _ _ hf
    · replace hf := if_2 hc hf
      refine j_iconst hK (0 : Int32) dX11_apart_57 ic_0 ?_
      refine j_istore hK (L' := [(7, .int (0 : Int32)), (0, .ref 122), (3, .int x3), (4, .int v.1), (5, .int v.2.1), (6, .int v.2.2)]) dX11_apart_58 (by decide) rfl ?_
      refine j_iconst hK (0 : Int32) dX11_apart_60 ic_0 ?_
      refine j_istore hK (L' := [(8, .int (0 : Int32)), (7, .int (0 : Int32)), (0, .ref 122), (3, .int x3), (4, .int v.1), (5, .int v.2.1), (6, .int v.2.2)]) dX11_apart_61 (by decide) rfl ?_
      refine j_iconst hK (0 : Int32) dX11_apart_63 ic_0 ?_
      refine j_istore hK (L' := [(9, .int (0 : Int32)), (8, .int (0 : Int32)), (7, .int (0 : Int32)), (0, .ref 122), (3, .int x3), (4, .int v.1), (5, .int v.2.1), (6, .int v.2.2)]) dX11_apart_64 (by decide) rfl ?_
      refine j_sub [3, 4, 5, 6, 7, 2, 1, 0] rfl ?_
      refine t_X11_apart_66 hK hA  (fun v16 S17 hf => ?_) _ _ _ hf
      refine j_iconst hK (0 : Int32) dX11_apart_87 ic_0 ?_
      refine j_istore hK (L' := [(9, .int (0 : Int32)), (0, .ref 122), (3, .int x3), (4, .int v.1), (5, .int v.2.1), (6, .int v.2.2), (7, .int (0 : Int32)), (8, .int (0 : Int32))]) dX11_apart_88 (by decide) rfl ?_
      refine j_sub [1, 2, 3, 4, 5, 6, 7, 0] rfl ?_
      refine t_X11_apart_90 hK hA  (fun v18 S19 hf => ?_) _ _ _ hf
      refine j_iload hK dX11_apart_165 2 rfl ?_
      refine j_iload hK dX11_apart_167 5 rfl ?_
      refine j_imul hK dX11_apart_169 ?_
      refine lt_I hf (fun y20 hf => ?_)
      refine j_istore hK (L' := [(4, .int y20), (0, .ref 122), (3, .int x3), (5, .int v.2.1), (6, .int v.2.2), (7, .int v18.1), (8, .int v18.2.1)]) dX11_apart_170 (by decide) rfl ?_
      refine j_iload hK dX11_apart_172 3 rfl ?_
      refine j_iload hK dX11_apart_174 6 rfl ?_
      refine j_imul hK dX11_apart_176 ?_
      refine j_pc (pc' := 177) rfl ?_
      refine lt_I hf (fun y21 hf => ?_)
      refine j_istore hK (L' := [(5, .int y21), (4, .int y20), (0, .ref 122), (3, .int x3), (6, .int v.2.2), (7, .int v18.1), (8, .int v18.2.1)]) dX11_apart_177 (by decide) rfl ?_
      refine j_iinc hK (L' := [(6, .int (v.2.2 + (1 : Int32))), (5, .int y21), (4, .int y20), (0, .ref 122), (3, .int x3), (7, .int v18.1), (8, .int v18.2.1)]) dX11_apart_179 4 rfl (congrArg (fun y => v.2.2 + y) ic_1) (by decide) rfl ?_
      refine j_goto hK 51 dX11_apart_182 (by decide) ?_
      refine j_sub [3, 4, 2, 1, 0] rfl ?_
      exact hk _ _ hf)
def f_X11_apart (p1 : Int32) (p2 : Int32) (p3 : Int32) (S : St) : Option (Int32 × St) := lt (sI S 122 0 (0 : Int32)) (fun S22 => bd (f_X11_isEcho 126 p1 p2 S22) (fun r23 S24 => (if r23 = 0 then some ((-1 : Int32), S24) else bd (f_X11_in p3.toInt64 (1 : Int64) (6 : Int64) S24) (fun r26 S27 => (if r26 = 0 then some ((-1 : Int32), S27) else bd (f_X11_laysEcho 126 p1 p2 S27) (fun r29 S30 => lp (f_X11_apart_51b p3 (fun v32 S33 => lt (sI S33 122 1 (0 : Int32)) (fun S34 => bd (f_X11_enters v32.2.1.toInt64 S34) (fun r35 S36 => some (v32.1, S36))))) FU ((1 : Int32), (1 : Int32), (0 : Int32)) S30))))))
theorem c_X11_apart {p1 : Int32} {p2 : Int32} {p3 : Int32} {S : St} {r : Int32} {S' : St} (hf : f_X11_apart p1 p2 p3 S = some (r, S')) : zM yX11_apart cX11_apart 11 6 (some .int) [.ref 122, .int p1, .int p2, .int p3] S (some (.int r)) S' := by
  refine zM_of (zpl (by decide)) (Nat.le_of_ble_eq_true rfl) rfl (fun K hK hA => ?_)
  unfold f_X11_apart at hf
  refine j_aload_n hK dX11_apart_0 0 rfl rfl ?_
  refine j_iconst hK (0 : Int32) dX11_apart_1 ic_0 ?_
  refine j_putI hK fl_X11_3 dX11_apart_2 zo_122 zf_11_0 ?_
  refine lt_S hf (fun S22 hf => ?_)
  refine j_aload_n hK dX11_apart_5 0 rfl rfl ?_
  refine j_aload_n hK dX11_apart_6 0 rfl rfl ?_
  refine j_getR hK fl_X11_31 dX11_apart_7 zo_122 zf_11_7 zr_122_7 ?_
  refine j_iload_n hK dX11_apart_10 1 rfl rfl ?_
  refine j_iload_n hK dX11_apart_11 2 rfl rfl ?_
  refine j_pc (pc' := 12) rfl ?_
  obtain ⟨r23, S24, h25, hf⟩ := bd_J hf
  refine k_callVi hK (c_X11_isEcho zb_126 h25) dX11_apart_12 zclX11 zo_122 ml_X11_326 mi_X11_isEcho mx_X11_isEcho in_X11 mc_X11_isEcho hy_X11_isEcho ⟨by decide, by decide⟩ rfl (Nat.le_of_ble_eq_true rfl) ?_
  refine j_if_eq hK 30 dX11_apart_15 (by decide) (fun hc => ?_) (fun hc => ?_)
  · replace hf := if_1 hc hf
    refine j_iconst hK (-1 : Int32) dX11_apart_30 ic_m1 ?_
    exact j_iret hK dX11_apart_31 rfl (rt_I hA hf)
  · replace hf := if_2 hc hf
    refine j_iload_n hK dX11_apart_18 3 rfl rfl ?_
    refine j_i2l hK dX11_apart_19 ?_
    refine j_lconst hK (1 : Int64) dX11_apart_20 lc_1 ?_
    refine j_ldc2 hK (v := (6 : Int64)) cl_X11_390 dX11_apart_21 ?_
    obtain ⟨r26, S27, h28, hf⟩ := bd_J hf
    refine k_callSi hK (c_X11_in h28) dX11_apart_24 ml_X11_131 ms_X11_in in_X11 mc_X11_in hy_X11_in ⟨by decide, by decide⟩ rfl (Nat.le_of_ble_eq_true rfl) ?_
    refine j_if_ne hK 32 dX11_apart_27 (by decide) (fun hc => ?_) (fun hc => ?_)
    · replace hf := if_2 hc hf
      refine j_aload_n hK dX11_apart_32 0 rfl rfl ?_
      refine j_aload_n hK dX11_apart_33 0 rfl rfl ?_
      refine j_getR hK fl_X11_31 dX11_apart_34 zo_122 zf_11_7 zr_122_7 ?_
      refine j_iload_n hK dX11_apart_37 1 rfl rfl ?_
      refine j_iload_n hK dX11_apart_38 2 rfl rfl ?_
      obtain ⟨r29, S30, h31, hf⟩ := bd_J hf
      refine k_callVv hK (c_X11_laysEcho zb_126 h31) dX11_apart_39 zclX11 zo_122 ml_X11_336 mi_X11_laysEcho mx_X11_laysEcho in_X11 mc_X11_laysEcho hy_X11_laysEcho ⟨by decide, by decide⟩ rfl (Nat.le_of_ble_eq_true rfl) ?_
      refine j_iconst hK (1 : Int32) dX11_apart_42 ic_1 ?_
      refine j_pc (pc' := 43) rfl ?_
      refine j_istore hK (L' := [(4, .int (1 : Int32)), (0, .ref 122), (1, .int p1), (2, .int p2), (3, .int p3)]) dX11_apart_43 (by decide) rfl ?_
      refine j_iconst hK (1 : Int32) dX11_apart_45 ic_1 ?_
      refine j_istore hK (L' := [(5, .int (1 : Int32)), (4, .int (1 : Int32)), (0, .ref 122), (1, .int p1), (2, .int p2), (3, .int p3)]) dX11_apart_46 (by decide) rfl ?_
      refine j_iconst hK (0 : Int32) dX11_apart_48 ic_0 ?_
      refine j_istore hK (L' := [(6, .int (0 : Int32)), (5, .int (1 : Int32)), (4, .int (1 : Int32)), (0, .ref 122), (1, .int p1), (2, .int p2), (3, .int p3)]) dX11_apart_49 (by decide) rfl ?_
      refine j_sub [3, 6, 2, 1, 0] rfl ?_
      refine t_X11_apart_51 hK hA  (fun v32 S33 hf => ?_) _ _ _ hf
      refine j_aload_n hK dX11_apart_185 0 rfl rfl ?_
      refine j_iconst hK (0 : Int32) dX11_apart_186 ic_0 ?_
      refine j_putI hK fl_X11_15 dX11_apart_187 zo_122 zf_11_1 ?_
      refine lt_S hf (fun S34 hf => ?_)
      refine j_aload_n hK dX11_apart_190 0 rfl rfl ?_
      refine j_iload hK dX11_apart_191 2 rfl ?_
      refine j_i2l hK dX11_apart_193 ?_
      obtain ⟨r35, S36, h37, hf⟩ := bd_J hf
      refine k_callVv hK (c_X11_enters h37) dX11_apart_194 zclX11 zo_122 ml_X11_340 mi_X11_enters mx_X11_enters in_X11 mc_X11_enters hy_X11_enters ⟨by decide, by decide⟩ rfl (Nat.le_of_ble_eq_true rfl) ?_
      refine j_pc (pc' := 197) rfl ?_
      refine j_iload hK dX11_apart_197 1 rfl ?_
      exact j_iret hK dX11_apart_199 rfl (rt_I hA hf)
    · replace hf := if_1 hc hf
      refine j_iconst hK (-1 : Int32) dX11_apart_30 ic_m1 ?_
      exact j_iret hK dX11_apart_31 rfl (rt_I hA hf)
def f_X11_longest_95 (x1 : Int32) (x2 : Int32) (x3 : Int32) (x4 : Int32) (k e : Int32 × Int32 × Int32 → St → Option (Int32 × St)) (S : St) : Option (Int32 × St) := k (x2, x3, (x4 + (1 : Int32))) S
theorem t_X11_longest_95 {K : CT} (hK : KO K cX11_longest RX11 5 4 (some .int)) {r : Int32} {S' : St} (hA : zans K = (some (.int r), S')) {x1 : Int32} {x2 : Int32} {x3 : Int32} {x4 : Int32} {k e : Int32 × Int32 × Int32 → St → Option (Int32 × St)} (hk : ∀ (v : Int32 × Int32 × Int32) (S : St), k v S = some (r, S') → J K 22 [(0, .ref 122), (1, .int x1), (2, .int v.1), (3, .int v.2.1), (4, .int v.2.2)] [] S) (he : ∀ (v : Int32 × Int32 × Int32) (S : St), e v S = some (r, S') → J K 101 [(2, .int v.1)] [] S) {S : St} (hf : f_X11_longest_95 x1 x2 x3 x4 k e S = some (r, S')) : J K 95 [(0, .ref 122), (1, .int x1), (2, .int x2), (3, .int x3), (4, .int x4)] [] S := by
  unfold f_X11_longest_95 at hf
  refine j_iinc hK (L' := [(4, .int (x4 + (1 : Int32))), (0, .ref 122), (1, .int x1), (2, .int x2), (3, .int x3)]) dX11_longest_95 4 rfl (congrArg (fun y => x4 + y) ic_1) (by decide) rfl ?_
  refine j_goto hK 22 dX11_longest_98 (by decide) ?_
  refine j_sub [1, 2, 3, 4, 0] rfl ?_
  exact hk _ _ hf
def f_X11_longest_22b (x1 : Int32) (e : Int32 × Int32 × Int32 → St → Option (Int32 × St)) (k : Int32 × Int32 × Int32 → St → Option (Int32 × St)) (v : Int32 × Int32 × Int32) (S : St) : Option (Int32 × St) := (if (gI S 122 3) ≤ v.2.2 then e (v.1, v.2.1, v.2.2) S else bd (f_X11_isEcho 126 x1 v.2.2 S) (fun r1 S2 => (if r1 = 0 then f_X11_longest_95 x1 v.1 v.2.1 v.2.2 k e S2 else bd (f_X11_laysEcho 126 x1 v.2.2 S2) (fun r4 S5 => (if (gI S5 122 26) ≤ v.2.1 then f_X11_longest_95 x1 v.1 v.2.1 v.2.2 k e S5 else lt (gI S5 122 26) (fun y7 => lt (sI S5 122 1 (0 : Int32)) (fun S8 => bd (f_X11_enters (gI S8 122 26).toInt64 S8) (fun r9 S10 => bd (f_X11_enters (gI S10 122 25).toInt64 S10) (fun r12 S13 => f_X11_longest_95 x1 v.2.2 y7 v.2.2 k e S13)))))))))
theorem t_X11_longest_22 {K : CT} (hK : KO K cX11_longest RX11 5 4 (some .int)) {r : Int32} {S' : St} (hA : zans K = (some (.int r), S')) {x1 : Int32} {e : Int32 × Int32 × Int32 → St → Option (Int32 × St)} (he : ∀ (v : Int32 × Int32 × Int32) (S : St), e v S = some (r, S') → J K 101 [(2, .int v.1)] [] S) : ∀ (n : Nat) (v : Int32 × Int32 × Int32) (S : St), lp (f_X11_longest_22b x1 e) n v S = some (r, S') → J K 22 [(0, .ref 122), (1, .int x1), (2, .int v.1), (3, .int v.2.1), (4, .int v.2.2)] [] S :=
  lp_J (P := fun (v : Int32 × Int32 × Int32) (S : St) => J K 22 [(0, .ref 122), (1, .int x1), (2, .int v.1), (3, .int v.2.1), (4, .int v.2.2)] [] S) (fun k hk v S hf => by
    unfold f_X11_longest_22b at hf
    refine j_iload hK dX11_longest_22 4 rfl ?_
    refine j_aload_n hK dX11_longest_24 0 rfl rfl ?_
    refine j_getI hK fl_X11_128 dX11_longest_25 zo_122 zf_11_3 ?_
    refine j_icmp_ge hK 101 dX11_longest_28 (by decide) (fun hc => ?_) (fun hc => ?_)
    · replace hf := if_1 hc hf
      refine j_sub [2] rfl ?_
      exact he _ _ hf
    · replace hf := if_2 hc hf
      refine j_aload_n hK dX11_longest_31 0 rfl rfl ?_
      refine j_aload_n hK dX11_longest_32 0 rfl rfl ?_
      refine j_getR hK fl_X11_31 dX11_longest_33 zo_122 zf_11_7 zr_122_7 ?_
      refine j_iload_n hK dX11_longest_36 1 rfl rfl ?_
      refine j_iload hK dX11_longest_37 4 rfl ?_
      obtain ⟨r1, S2, h3, hf⟩ := bd_J hf
      refine k_callVi hK (c_X11_isEcho zb_126 h3) dX11_longest_39 zclX11 zo_122 ml_X11_326 mi_X11_isEcho mx_X11_isEcho in_X11 mc_X11_isEcho hy_X11_isEcho ⟨by decide, by decide⟩ rfl (Nat.le_of_ble_eq_true rfl) ?_
      refine j_if_eq hK 95 dX11_longest_42 (by decide) (fun hc => ?_) (fun hc => ?_)
      · replace hf := if_1 hc hf
        exact t_X11_longest_95 hK hA hk he hf
      · replace hf := if_2 hc hf
        refine j_aload_n hK dX11_longest_45 0 rfl rfl ?_
        refine j_aload_n hK dX11_longest_46 0 rfl rfl ?_
        refine j_getR hK fl_X11_31 dX11_longest_47 zo_122 zf_11_7 zr_122_7 ?_
        refine j_iload_n hK dX11_longest_50 1 rfl rfl ?_
        refine j_iload hK dX11_longest_51 4 rfl ?_
        obtain ⟨r4, S5, h6, hf⟩ := bd_J hf
        refine k_callVv hK (c_X11_laysEcho zb_126 h6) dX11_longest_53 zclX11 zo_122 ml_X11_336 mi_X11_laysEcho mx_X11_laysEcho in_X11 mc_X11_laysEcho hy_X11_laysEcho ⟨by decide, by decide⟩ rfl (Nat.le_of_ble_eq_true rfl) ?_
        refine j_aload_n hK dX11_longest_56 0 rfl rfl ?_
        refine j_pc (pc' := 57) rfl ?_
        refine j_getI hK fl_X11_275 dX11_longest_57 zo_122 zf_11_26 ?_
        refine j_iload_n hK dX11_longest_60 3 rfl rfl ?_
        refine j_icmp_le hK 95 dX11_longest_61 (by decide) (fun hc => ?_) (fun hc => ?_)
        · replace hf := if_1 hc hf
          exact t_X11_longest_95 hK hA hk he hf
        · replace hf := if_2 hc hf
          refine j_iload hK dX11_longest_64 4 rfl ?_
          refine j_istore_n hK (L' := [(2, .int v.2.2), (0, .ref 122), (1, .int x1), (3, .int v.2.1), (4, .int v.2.2)]) dX11_longest_66 rfl (by decide) rfl ?_
          refine j_aload_n hK dX11_longest_67 1 rfl rfl ?_
          refine j_getI hK fl_X11_275 dX11_longest_68 zo_122 zf_11_26 ?_
          refine lt_I hf (fun y7 hf => ?_)
          refine j_istore_n hK (L' := [(3, .int y7), (2, .int v.2.2), (0, .ref 122), (1, .int x1), (4, .int v.2.2)]) dX11_longest_71 rfl (by decide) rfl ?_
          refine j_aload_n hK dX11_longest_72 2 rfl rfl ?_
          refine j_iconst hK (0 : Int32) dX11_longest_73 ic_0 ?_
          refine j_pc (pc' := 74) rfl ?_
          refine j_putI hK fl_X11_15 dX11_longest_74 zo_122 zf_11_1 ?_
          refine lt_S hf (fun S8 hf => ?_)
          refine j_aload_n hK dX11_longest_77 2 rfl rfl ?_
          refine j_aload_n hK dX11_longest_78 2 rfl rfl ?_
          refine j_getI hK fl_X11_275 dX11_longest_79 zo_122 zf_11_26 ?_
          refine j_i2l hK dX11_longest_82 ?_
          obtain ⟨r9, S10, h11, hf⟩ := bd_J hf
          refine k_callVv hK (c_X11_enters h11) dX11_longest_83 zclX11 zo_122 ml_X11_340 mi_X11_enters mx_X11_enters in_X11 mc_X11_enters hy_X11_enters ⟨by decide, by decide⟩ rfl (Nat.le_of_ble_eq_true rfl) ?_
          refine j_aload_n hK dX11_longest_86 2 rfl rfl ?_
          refine j_aload_n hK dX11_longest_87 2 rfl rfl ?_
          refine j_pc (pc' := 88) rfl ?_
          refine j_getI hK fl_X11_272 dX11_longest_88 zo_122 zf_11_25 ?_
          refine j_i2l hK dX11_longest_91 ?_
          obtain ⟨r12, S13, h14, hf⟩ := bd_J hf
          refine k_callVv hK (c_X11_enters h14) dX11_longest_92 zclX11 zo_122 ml_X11_340 mi_X11_enters mx_X11_enters in_X11 mc_X11_enters hy_X11_enters ⟨by decide, by decide⟩ rfl (Nat.le_of_ble_eq_true rfl) ?_
          refine j_sub [2, 3, 1, 0, 4] rfl ?_
          exact t_X11_longest_95 hK hA hk he hf)
def f_X11_longest (p1 : Int32) (S : St) : Option (Int32 × St) := lt (sI S 122 0 (0 : Int32)) (fun S15 => bd (f_X11_isCavern p1 S15) (fun r16 S17 => (if r16 = 0 then some ((-1 : Int32), S17) else lp (f_X11_longest_22b p1 (fun v19 S20 => some (v19.1, S20))) FU ((-2 : Int32), (0 : Int32), (0 : Int32)) S17)))
theorem c_X11_longest {p1 : Int32} {S : St} {r : Int32} {S' : St} (hf : f_X11_longest p1 S = some (r, S')) : zM yX11_longest cX11_longest 5 4 (some .int) [.ref 122, .int p1] S (some (.int r)) S' := by
  refine zM_of (zpl (by decide)) (Nat.le_of_ble_eq_true rfl) rfl (fun K hK hA => ?_)
  unfold f_X11_longest at hf
  refine j_aload_n hK dX11_longest_0 0 rfl rfl ?_
  refine j_iconst hK (0 : Int32) dX11_longest_1 ic_0 ?_
  refine j_putI hK fl_X11_3 dX11_longest_2 zo_122 zf_11_0 ?_
  refine lt_S hf (fun S15 hf => ?_)
  refine j_iload_n hK dX11_longest_5 1 rfl rfl ?_
  obtain ⟨r16, S17, h18, hf⟩ := bd_J hf
  refine k_callSi hK (c_X11_isCavern h18) dX11_longest_6 ml_X11_256 ms_X11_isCavern in_X11 mc_X11_isCavern hy_X11_isCavern ⟨by decide, by decide⟩ rfl (Nat.le_of_ble_eq_true rfl) ?_
  refine j_if_ne hK 14 dX11_longest_9 (by decide) (fun hc => ?_) (fun hc => ?_)
  · replace hf := if_2 hc hf
    refine j_bipush hK (-2 : Int32) dX11_longest_14 bi_m2 ?_
    refine j_istore_n hK (L' := [(2, .int (-2 : Int32)), (0, .ref 122), (1, .int p1)]) dX11_longest_16 rfl (by decide) rfl ?_
    refine j_iconst hK (0 : Int32) dX11_longest_17 ic_0 ?_
    refine j_istore_n hK (L' := [(3, .int (0 : Int32)), (2, .int (-2 : Int32)), (0, .ref 122), (1, .int p1)]) dX11_longest_18 rfl (by decide) rfl ?_
    refine j_iconst hK (0 : Int32) dX11_longest_19 ic_0 ?_
    refine j_istore hK (L' := [(4, .int (0 : Int32)), (3, .int (0 : Int32)), (2, .int (-2 : Int32)), (0, .ref 122), (1, .int p1)]) dX11_longest_20 (by decide) rfl ?_
    refine j_sub [3, 4, 2, 1, 0] rfl ?_
    refine t_X11_longest_22 hK hA  (fun v19 S20 hf => ?_) _ _ _ hf
    refine j_iload_n hK dX11_longest_101 0 rfl rfl ?_
    exact j_iret hK dX11_longest_102 rfl (rt_I hA hf)
  · replace hf := if_1 hc hf
    refine j_iconst hK (-1 : Int32) dX11_longest_12 ic_m1 ?_
    exact j_iret hK dX11_longest_13 rfl (rt_I hA hf)
def f_X11_rounds_103 (x1 : Int32) (x2 : Int32) (x3 : Int32) (x4 : Int32) (x5 : Int32) (k e : Int32 × Int32 × Int32 × Int32 → St → Option (Int32 × St)) (S : St) : Option (Int32 × St) := k (x1, x2, x3, (x5 + (1 : Int32))) S
theorem t_X11_rounds_103 {K : CT} (hK : KO K cX11_rounds RX11 6 4 (some .int)) {r : Int32} {S' : St} (hA : zans K = (some (.int r), S')) {x1 : Int32} {x2 : Int32} {x3 : Int32} {x4 : Int32} {x5 : Int32} {k e : Int32 × Int32 × Int32 × Int32 → St → Option (Int32 × St)} (hk : ∀ (v : Int32 × Int32 × Int32 × Int32) (S : St), k v S = some (r, S') → J K 24 [(0, .ref 122), (1, .int v.1), (2, .int v.2.1), (3, .int v.2.2.1), (4, .int x4), (5, .int v.2.2.2)] [] S) (he : ∀ (v : Int32 × Int32 × Int32 × Int32) (S : St), e v S = some (r, S') → J K 109 [(0, .ref 122), (1, .int v.1), (2, .int v.2.1), (3, .int v.2.2.1), (4, .int x4)] [] S) {S : St} (hf : f_X11_rounds_103 x1 x2 x3 x4 x5 k e S = some (r, S')) : J K 103 [(0, .ref 122), (1, .int x1), (2, .int x2), (3, .int x3), (4, .int x4), (5, .int x5)] [] S := by
  unfold f_X11_rounds_103 at hf
  refine j_iinc hK (L' := [(5, .int (x5 + (1 : Int32))), (0, .ref 122), (1, .int x1), (2, .int x2), (3, .int x3), (4, .int x4)]) dX11_rounds_103 5 rfl (congrArg (fun y => x5 + y) ic_1) (by decide) rfl ?_
  refine j_goto hK 24 dX11_rounds_106 (by decide) ?_
  refine j_sub [1, 2, 3, 4, 5, 0] rfl ?_
  exact hk _ _ hf
def f_X11_rounds_101 (x2 : Int32) (x3 : Int32) (x4 : Int32) (x5 : Int32) (s0 : Int32) (s1 : Int32) (k e : Int32 × Int32 × Int32 × Int32 → St → Option (Int32 × St)) (S : St) : Option (Int32 × St) := lt (s0 ||| s1) (fun y1 => f_X11_rounds_103 y1 x2 x3 x4 x5 k e S)
theorem t_X11_rounds_101 {K : CT} (hK : KO K cX11_rounds RX11 6 4 (some .int)) {r : Int32} {S' : St} (hA : zans K = (some (.int r), S')) {x2 : Int32} {x3 : Int32} {x4 : Int32} {x5 : Int32} {s0 : Int32} {s1 : Int32} {k e : Int32 × Int32 × Int32 × Int32 → St → Option (Int32 × St)} (hk : ∀ (v : Int32 × Int32 × Int32 × Int32) (S : St), k v S = some (r, S') → J K 24 [(0, .ref 122), (1, .int v.1), (2, .int v.2.1), (3, .int v.2.2.1), (4, .int x4), (5, .int v.2.2.2)] [] S) (he : ∀ (v : Int32 × Int32 × Int32 × Int32) (S : St), e v S = some (r, S') → J K 109 [(0, .ref 122), (1, .int v.1), (2, .int v.2.1), (3, .int v.2.2.1), (4, .int x4)] [] S) {S : St} (hf : f_X11_rounds_101 x2 x3 x4 x5 s0 s1 k e S = some (r, S')) : J K 101 [(0, .ref 122), (2, .int x2), (3, .int x3), (4, .int x4), (5, .int x5)] [.int s1, .int s0] S := by
  unfold f_X11_rounds_101 at hf
  refine j_ior hK dX11_rounds_101 ?_
  refine lt_I hf (fun y1 hf => ?_)
  refine j_istore_n hK (L' := [(1, .int y1), (0, .ref 122), (2, .int x2), (3, .int x3), (4, .int x4), (5, .int x5)]) dX11_rounds_102 rfl (by decide) rfl ?_
  refine j_sub [1, 0, 2, 3, 4, 5] rfl ?_
  exact t_X11_rounds_103 hK hA hk he hf
def f_X11_rounds_78 (x1 : Int32) (x2 : Int32) (x4 : Int32) (x5 : Int32) (s0 : Int32) (s1 : Int32) (k e : Int32 × Int32 × Int32 × Int32 → St → Option (Int32 × St)) (S : St) : Option (Int32 × St) := bd (f_X11_flag s1 S) (fun r2 S3 => lt (s0 + r2) (fun y5 => (if (gI S3 122 25) = x4 then f_X11_rounds_101 x2 y5 x4 x5 x1 ((1 : Int32) <<< (x4 &&& 31)) k e S3 else f_X11_rounds_101 x2 y5 x4 x5 x1 (0 : Int32) k e S3)))
theorem t_X11_rounds_78 {K : CT} (hK : KO K cX11_rounds RX11 6 4 (some .int)) {r : Int32} {S' : St} (hA : zans K = (some (.int r), S')) {x1 : Int32} {x2 : Int32} {x4 : Int32} {x5 : Int32} {s0 : Int32} {s1 : Int32} {k e : Int32 × Int32 × Int32 × Int32 → St → Option (Int32 × St)} (hk : ∀ (v : Int32 × Int32 × Int32 × Int32) (S : St), k v S = some (r, S') → J K 24 [(0, .ref 122), (1, .int v.1), (2, .int v.2.1), (3, .int v.2.2.1), (4, .int x4), (5, .int v.2.2.2)] [] S) (he : ∀ (v : Int32 × Int32 × Int32 × Int32) (S : St), e v S = some (r, S') → J K 109 [(0, .ref 122), (1, .int v.1), (2, .int v.2.1), (3, .int v.2.2.1), (4, .int x4)] [] S) {S : St} (hf : f_X11_rounds_78 x1 x2 x4 x5 s0 s1 k e S = some (r, S')) : J K 78 [(0, .ref 122), (1, .int x1), (2, .int x2), (4, .int x4), (5, .int x5)] [.int s1, .int s0] S := by
  unfold f_X11_rounds_78 at hf
  obtain ⟨r2, S3, h4, hf⟩ := bd_J hf
  refine k_callSi hK (c_X11_flag h4) dX11_rounds_78 ml_X11_155 ms_X11_flag in_X11 mc_X11_flag hy_X11_flag ⟨by decide, by decide⟩ rfl (Nat.le_of_ble_eq_true rfl) ?_
  refine j_iadd hK dX11_rounds_81 ?_
  refine lt_I hf (fun y5 hf => ?_)
  refine j_istore_n hK (L' := [(3, .int y5), (0, .ref 122), (1, .int x1), (2, .int x2), (4, .int x4), (5, .int x5)]) dX11_rounds_82 rfl (by decide) rfl ?_
  refine j_iload_n hK dX11_rounds_83 2 rfl rfl ?_
  refine j_aload_n hK dX11_rounds_84 1 rfl rfl ?_
  refine j_getI hK fl_X11_272 dX11_rounds_85 zo_122 zf_11_25 ?_
  refine j_iload hK dX11_rounds_88 4 rfl ?_
  refine j_icmp_ne hK 100 dX11_rounds_90 (by decide) (fun hc => ?_) (fun hc => ?_)
  · replace hf := if_2 hc hf
    refine j_iconst hK (0 : Int32) dX11_rounds_100 ic_0 ?_
    refine j_sub [1, 3, 0, 4, 5] rfl ?_
    exact t_X11_rounds_101 hK hA hk he hf
  · replace hf := if_1 hc hf
    refine j_iconst hK (1 : Int32) dX11_rounds_93 ic_1 ?_
    refine j_iload hK dX11_rounds_94 4 rfl ?_
    refine j_ishl hK dX11_rounds_96 ?_
    refine j_goto hK 101 dX11_rounds_97 (by decide) ?_
    refine j_sub [1, 3, 0, 4, 5] rfl ?_
    exact t_X11_rounds_101 hK hA hk he hf
def f_X11_rounds_24b (x4 : Int32) (e : Int32 × Int32 × Int32 × Int32 → St → Option (Int32 × St)) (k : Int32 × Int32 × Int32 × Int32 → St → Option (Int32 × St)) (v : Int32 × Int32 × Int32 × Int32) (S : St) : Option (Int32 × St) := (if (gI S 122 3) ≤ v.2.2.2 then e (v.1, v.2.1, v.2.2.1, v.2.2.2) S else bd (f_X11_isEcho 126 x4 v.2.2.2 S) (fun r6 S7 => (if r6 = 0 then f_X11_rounds_103 v.1 v.2.1 v.2.2.1 x4 v.2.2.2 k e S7 else bd (f_X11_laysEcho 126 x4 v.2.2.2 S7) (fun r9 S10 => (if (gI S10 122 25) = x4 then f_X11_rounds_78 v.1 (v.2.1 + (1 : Int32)) x4 v.2.2.2 v.2.2.1 (1 : Int32) k e S10 else f_X11_rounds_78 v.1 (v.2.1 + (1 : Int32)) x4 v.2.2.2 v.2.2.1 (0 : Int32) k e S10)))))
theorem t_X11_rounds_24 {K : CT} (hK : KO K cX11_rounds RX11 6 4 (some .int)) {r : Int32} {S' : St} (hA : zans K = (some (.int r), S')) {x4 : Int32} {e : Int32 × Int32 × Int32 × Int32 → St → Option (Int32 × St)} (he : ∀ (v : Int32 × Int32 × Int32 × Int32) (S : St), e v S = some (r, S') → J K 109 [(0, .ref 122), (1, .int v.1), (2, .int v.2.1), (3, .int v.2.2.1), (4, .int x4)] [] S) : ∀ (n : Nat) (v : Int32 × Int32 × Int32 × Int32) (S : St), lp (f_X11_rounds_24b x4 e) n v S = some (r, S') → J K 24 [(0, .ref 122), (1, .int v.1), (2, .int v.2.1), (3, .int v.2.2.1), (4, .int x4), (5, .int v.2.2.2)] [] S :=
  lp_J (P := fun (v : Int32 × Int32 × Int32 × Int32) (S : St) => J K 24 [(0, .ref 122), (1, .int v.1), (2, .int v.2.1), (3, .int v.2.2.1), (4, .int x4), (5, .int v.2.2.2)] [] S) (fun k hk v S hf => by
    unfold f_X11_rounds_24b at hf
    refine j_iload hK dX11_rounds_24 5 rfl ?_
    refine j_aload_n hK dX11_rounds_26 0 rfl rfl ?_
    refine j_getI hK fl_X11_128 dX11_rounds_27 zo_122 zf_11_3 ?_
    refine j_icmp_ge hK 109 dX11_rounds_30 (by decide) (fun hc => ?_) (fun hc => ?_)
    · replace hf := if_1 hc hf
      refine j_sub [0, 1, 2, 3, 4] rfl ?_
      exact he _ _ hf
    · replace hf := if_2 hc hf
      refine j_aload_n hK dX11_rounds_33 0 rfl rfl ?_
      refine j_aload_n hK dX11_rounds_34 0 rfl rfl ?_
      refine j_getR hK fl_X11_31 dX11_rounds_35 zo_122 zf_11_7 zr_122_7 ?_
      refine j_iload hK dX11_rounds_38 4 rfl ?_
      refine j_iload hK dX11_rounds_40 5 rfl ?_
      obtain ⟨r6, S7, h8, hf⟩ := bd_J hf
      refine k_callVi hK (c_X11_isEcho zb_126 h8) dX11_rounds_42 zclX11 zo_122 ml_X11_326 mi_X11_isEcho mx_X11_isEcho in_X11 mc_X11_isEcho hy_X11_isEcho ⟨by decide, by decide⟩ rfl (Nat.le_of_ble_eq_true rfl) ?_
      refine j_if_eq hK 103 dX11_rounds_45 (by decide) (fun hc => ?_) (fun hc => ?_)
      · replace hf := if_1 hc hf
        exact t_X11_rounds_103 hK hA hk he hf
      · replace hf := if_2 hc hf
        refine j_aload_n hK dX11_rounds_48 0 rfl rfl ?_
        refine j_aload_n hK dX11_rounds_49 0 rfl rfl ?_
        refine j_getR hK fl_X11_31 dX11_rounds_50 zo_122 zf_11_7 zr_122_7 ?_
        refine j_iload hK dX11_rounds_53 4 rfl ?_
        refine j_iload hK dX11_rounds_55 5 rfl ?_
        obtain ⟨r9, S10, h11, hf⟩ := bd_J hf
        refine k_callVv hK (c_X11_laysEcho zb_126 h11) dX11_rounds_57 zclX11 zo_122 ml_X11_336 mi_X11_laysEcho mx_X11_laysEcho in_X11 mc_X11_laysEcho hy_X11_laysEcho ⟨by decide, by decide⟩ rfl (Nat.le_of_ble_eq_true rfl) ?_
        refine j_iinc hK (L' := [(2, .int (v.2.1 + (1 : Int32))), (0, .ref 122), (1, .int v.1), (3, .int v.2.2.1), (4, .int x4), (5, .int v.2.2.2)]) dX11_rounds_60 2 rfl (congrArg (fun y => v.2.1 + y) ic_1) (by decide) rfl ?_
        refine j_pc (pc' := 63) rfl ?_
        refine j_iload_n hK dX11_rounds_63 3 rfl rfl ?_
        refine j_aload_n hK dX11_rounds_64 1 rfl rfl ?_
        refine j_getI hK fl_X11_272 dX11_rounds_65 zo_122 zf_11_25 ?_
        refine j_iload hK dX11_rounds_68 4 rfl ?_
        refine j_icmp_ne hK 77 dX11_rounds_70 (by decide) (fun hc => ?_) (fun hc => ?_)
        · replace hf := if_2 hc hf
          refine j_iconst hK (0 : Int32) dX11_rounds_77 ic_0 ?_
          refine j_sub [1, 2, 0, 4, 5] rfl ?_
          exact t_X11_rounds_78 hK hA hk he hf
        · replace hf := if_1 hc hf
          refine j_iconst hK (1 : Int32) dX11_rounds_73 ic_1 ?_
          refine j_goto hK 78 dX11_rounds_74 (by decide) ?_
          refine j_sub [1, 2, 0, 4, 5] rfl ?_
          exact t_X11_rounds_78 hK hA hk he hf)
def f_X11_rounds_14b (e : Int32 × Int32 × Int32 × Int32 → St → Option (Int32 × St)) (k : Int32 × Int32 × Int32 × Int32 → St → Option (Int32 × St)) (v : Int32 × Int32 × Int32 × Int32) (S : St) : Option (Int32 × St) := (if (8 : Int32) ≤ v.2.2.2 then e (v.1, v.2.1, v.2.2.1, v.2.2.2) S else lp (f_X11_rounds_24b v.2.2.2 (fun v12 S13 => k (v12.1, v12.2.1, v12.2.2.1, (v.2.2.2 + (1 : Int32))) S13)) FU (v.1, v.2.1, v.2.2.1, (0 : Int32)) S)
theorem t_X11_rounds_14 {K : CT} (hK : KO K cX11_rounds RX11 6 4 (some .int)) {r : Int32} {S' : St} (hA : zans K = (some (.int r), S')) {e : Int32 × Int32 × Int32 × Int32 → St → Option (Int32 × St)} (he : ∀ (v : Int32 × Int32 × Int32 × Int32) (S : St), e v S = some (r, S') → J K 115 [(0, .ref 122), (1, .int v.1), (2, .int v.2.1), (3, .int v.2.2.1)] [] S) : ∀ (n : Nat) (v : Int32 × Int32 × Int32 × Int32) (S : St), lp (f_X11_rounds_14b  e) n v S = some (r, S') → J K 14 [(0, .ref 122), (1, .int v.1), (2, .int v.2.1), (3, .int v.2.2.1), (4, .int v.2.2.2)] [] S :=
  lp_J (P := fun (v : Int32 × Int32 × Int32 × Int32) (S : St) => J K 14 [(0, .ref 122), (1, .int v.1), (2, .int v.2.1), (3, .int v.2.2.1), (4, .int v.2.2.2)] [] S) (fun k hk v S hf => by
    unfold f_X11_rounds_14b at hf
    refine j_iload hK dX11_rounds_14 4 rfl ?_
    refine j_bipush hK (8 : Int32) dX11_rounds_16 bi_8 ?_
    refine j_icmp_ge hK 115 dX11_rounds_18 (by decide) (fun hc => ?_) (fun hc => ?_)
    · replace hf := if_1 hc hf
      refine j_sub [0, 1, 2, 3] rfl ?_
      exact he _ _ hf
    · replace hf := if_2 hc hf
      refine j_iconst hK (0 : Int32) dX11_rounds_21 ic_0 ?_
      refine j_istore hK (L' := [(5, .int (0 : Int32)), (0, .ref 122), (1, .int v.1), (2, .int v.2.1), (3, .int v.2.2.1), (4, .int v.2.2.2)]) dX11_rounds_22 (by decide) rfl ?_
      refine j_sub [1, 2, 3, 4, 5, 0] rfl ?_
      refine t_X11_rounds_24 hK hA  (fun v12 S13 hf => ?_) _ _ _ hf
      refine j_iinc hK (L' := [(4, .int (v.2.2.2 + (1 : Int32))), (0, .ref 122), (1, .int v12.1), (2, .int v12.2.1), (3, .int v12.2.2.1)]) dX11_rounds_109 4 rfl (congrArg (fun y => v.2.2.2 + y) ic_1) (by decide) rfl ?_
      refine j_goto hK 14 dX11_rounds_112 (by decide) ?_
      refine j_sub [1, 2, 3, 4, 0] rfl ?_
      exact hk _ _ hf)
def f_X11_rounds (S : St) : Option (Int32 × St) := lt (sI S 122 0 (0 : Int32)) (fun S14 => lp (f_X11_rounds_14b  (fun v15 S16 => lt (sI S16 122 1 (0 : Int32)) (fun S17 => bd (f_X11_enters v15.2.1.toInt64 S17) (fun r18 S19 => bd (f_X11_enters v15.2.2.1.toInt64 S19) (fun r21 S22 => some (v15.1, S22)))))) FU ((0 : Int32), (0 : Int32), (0 : Int32), (0 : Int32)) S14)
theorem c_X11_rounds {S : St} {r : Int32} {S' : St} (hf : f_X11_rounds S = some (r, S')) : zM yX11_rounds cX11_rounds 6 4 (some .int) [.ref 122] S (some (.int r)) S' := by
  refine zM_of (zpl (by decide)) (Nat.le_of_ble_eq_true rfl) rfl (fun K hK hA => ?_)
  unfold f_X11_rounds at hf
  refine j_aload_n hK dX11_rounds_0 0 rfl rfl ?_
  refine j_iconst hK (0 : Int32) dX11_rounds_1 ic_0 ?_
  refine j_putI hK fl_X11_3 dX11_rounds_2 zo_122 zf_11_0 ?_
  refine lt_S hf (fun S14 hf => ?_)
  refine j_iconst hK (0 : Int32) dX11_rounds_5 ic_0 ?_
  refine j_istore_n hK (L' := [(1, .int (0 : Int32)), (0, .ref 122)]) dX11_rounds_6 rfl (by decide) rfl ?_
  refine j_iconst hK (0 : Int32) dX11_rounds_7 ic_0 ?_
  refine j_istore_n hK (L' := [(2, .int (0 : Int32)), (1, .int (0 : Int32)), (0, .ref 122)]) dX11_rounds_8 rfl (by decide) rfl ?_
  refine j_iconst hK (0 : Int32) dX11_rounds_9 ic_0 ?_
  refine j_pc (pc' := 10) rfl ?_
  refine j_istore_n hK (L' := [(3, .int (0 : Int32)), (2, .int (0 : Int32)), (1, .int (0 : Int32)), (0, .ref 122)]) dX11_rounds_10 rfl (by decide) rfl ?_
  refine j_iconst hK (0 : Int32) dX11_rounds_11 ic_0 ?_
  refine j_istore hK (L' := [(4, .int (0 : Int32)), (3, .int (0 : Int32)), (2, .int (0 : Int32)), (1, .int (0 : Int32)), (0, .ref 122)]) dX11_rounds_12 (by decide) rfl ?_
  refine j_sub [4, 3, 2, 1, 0] rfl ?_
  refine t_X11_rounds_14 hK hA  (fun v15 S16 hf => ?_) _ _ _ hf
  refine j_aload_n hK dX11_rounds_115 0 rfl rfl ?_
  refine j_iconst hK (0 : Int32) dX11_rounds_116 ic_0 ?_
  refine j_putI hK fl_X11_15 dX11_rounds_117 zo_122 zf_11_1 ?_
  refine lt_S hf (fun S17 hf => ?_)
  refine j_aload_n hK dX11_rounds_120 0 rfl rfl ?_
  refine j_iload_n hK dX11_rounds_121 2 rfl rfl ?_
  refine j_i2l hK dX11_rounds_122 ?_
  obtain ⟨r18, S19, h20, hf⟩ := bd_J hf
  refine k_callVv hK (c_X11_enters h20) dX11_rounds_123 zclX11 zo_122 ml_X11_340 mi_X11_enters mx_X11_enters in_X11 mc_X11_enters hy_X11_enters ⟨by decide, by decide⟩ rfl (Nat.le_of_ble_eq_true rfl) ?_
  refine j_pc (pc' := 126) rfl ?_
  refine j_aload_n hK dX11_rounds_126 0 rfl rfl ?_
  refine j_iload_n hK dX11_rounds_127 3 rfl rfl ?_
  refine j_i2l hK dX11_rounds_128 ?_
  obtain ⟨r21, S22, h23, hf⟩ := bd_J hf
  refine k_callVv hK (c_X11_enters h23) dX11_rounds_129 zclX11 zo_122 ml_X11_340 mi_X11_enters mx_X11_enters in_X11 mc_X11_enters hy_X11_enters ⟨by decide, by decide⟩ rfl (Nat.le_of_ble_eq_true rfl) ?_
  refine j_iload_n hK dX11_rounds_132 1 rfl rfl ?_
  exact j_iret hK dX11_rounds_133 rfl (rt_I hA hf)
