def f_X11_withPassages_26 (x2 : Int32) (s0 : Int32) (s1 : Int32) (k e : Int32 × Int32 → St → Option (Int32 × St)) (S : St) : Option (Int32 × St) := lt (s0 ||| s1) (fun y1 => k (y1, (x2 + (1 : Int32))) S)
theorem t_X11_withPassages_26 {K : CT} (hK : KO K cX11_withPassages RX11 3 3 (some .int)) {r : Int32} {S' : St} (hA : zans K (some (.int r), S')) {x2 : Int32} {s0 : Int32} {s1 : Int32} {k e : Int32 × Int32 → St → Option (Int32 × St)} (hk : ∀ (v : Int32 × Int32) (S : St), k v S = some (r, S') → J K 4 [(0, .ref 122), (1, .int v.1), (2, .int v.2)] [] S) (he : ∀ (v : Int32 × Int32) (S : St), e v S = some (r, S') → J K 34 [(1, .int v.1)] [] S) {S : St} (hf : f_X11_withPassages_26 x2 s0 s1 k e S = some (r, S')) : J K 26 [(0, .ref 122), (2, .int x2)] [.int s1, .int s0] S := by
  unfold f_X11_withPassages_26 at hf
  refine j_ior hK dX11_withPassages_26 ?_
  refine lt_I hf (fun y1 hf => ?_)
  refine j_istore_n hK (L' := [(1, .int y1), (0, .ref 122), (2, .int x2)]) dX11_withPassages_27 rfl (by decide) rfl ?_
  refine j_iinc hK (L' := [(2, .int (x2 + (1 : Int32))), (1, .int y1), (0, .ref 122)]) dX11_withPassages_28 2 rfl (congrArg (fun y => x2 + y) ic_1) (by decide) rfl ?_
  refine j_goto hK 4 dX11_withPassages_31 (by decide) ?_
  refine j_sub [2, 1, 0] rfl ?_
  exact hk _ _ hf
def f_X11_withPassages_4b (e : Int32 × Int32 → St → Option (Int32 × St)) (k : Int32 × Int32 → St → Option (Int32 × St)) (v : Int32 × Int32) (S : St) : Option (Int32 × St) := (if (8 : Int32) ≤ v.2 then e (v.1, v.2) S else bd (f_X11_openOf v.2 S) (fun r2 S3 => (if r2 = 0 then f_X11_withPassages_26 v.2 v.1 (0 : Int32) k e S3 else f_X11_withPassages_26 v.2 v.1 ((1 : Int32) <<< (v.2 &&& 31)) k e S3)))
theorem t_X11_withPassages_4 {K : CT} (hK : KO K cX11_withPassages RX11 3 3 (some .int)) {r : Int32} {S' : St} (hA : zans K (some (.int r), S')) {e : Int32 × Int32 → St → Option (Int32 × St)} (he : ∀ (v : Int32 × Int32) (S : St), e v S = some (r, S') → J K 34 [(1, .int v.1)] [] S) : ∀ (n : Nat) (v : Int32 × Int32) (S : St), lp (f_X11_withPassages_4b  e) n v S = some (r, S') → J K 4 [(0, .ref 122), (1, .int v.1), (2, .int v.2)] [] S :=
  lp_J (P := fun (v : Int32 × Int32) (S : St) => J K 4 [(0, .ref 122), (1, .int v.1), (2, .int v.2)] [] S) (fun k hk v S hf => by
    unfold f_X11_withPassages_4b at hf
    refine j_iload_n hK dX11_withPassages_4 2 rfl rfl ?_
    refine j_bipush hK (8 : Int32) dX11_withPassages_5 bi_8 ?_
    refine j_icmp_ge hK 34 dX11_withPassages_7 (by decide) (fun hc => ?_) (fun hc => ?_)
    · replace hf := if_1 hc hf
      refine j_sub [1] rfl ?_
      exact he _ _ hf
    · replace hf := if_2 hc hf
      refine j_iload_n hK dX11_withPassages_10 1 rfl rfl ?_
      refine j_aload_n hK dX11_withPassages_11 0 rfl rfl ?_
      refine j_iload_n hK dX11_withPassages_12 2 rfl rfl ?_
      obtain ⟨r2, S3, h4, hf⟩ := bd_J hf
      refine k_callVi hK (c_X11_openOf h4) dX11_withPassages_13 zclX11 zo_122 ml_X11_305 mi_X11_openOf mx_X11_openOf in_X11 mc_X11_openOf hy_X11_openOf ⟨by decide, by decide⟩ rfl (Nat.le_of_ble_eq_true rfl) ?_
      refine j_if_eq hK 25 dX11_withPassages_16 (by decide) (fun hc => ?_) (fun hc => ?_)
      · replace hf := if_1 hc hf
        refine j_iconst hK (0 : Int32) dX11_withPassages_25 ic_0 ?_
        refine j_sub [0, 2] rfl ?_
        exact t_X11_withPassages_26 hK hA hk he hf
      · replace hf := if_2 hc hf
        refine j_iconst hK (1 : Int32) dX11_withPassages_19 ic_1 ?_
        refine j_iload_n hK dX11_withPassages_20 2 rfl rfl ?_
        refine j_ishl hK dX11_withPassages_21 ?_
        refine j_goto hK 26 dX11_withPassages_22 (by decide) ?_
        refine j_sub [0, 2] rfl ?_
        exact t_X11_withPassages_26 hK hA hk he hf)
def f_X11_withPassages (S : St) : Option (Int32 × St) := lp (f_X11_withPassages_4b  (fun v5 S6 => some (v5.1, S6))) FU ((0 : Int32), (0 : Int32)) S
theorem c_X11_withPassages {S : St} {r : Int32} {S' : St} (hf : f_X11_withPassages S = some (r, S')) : zM yX11_withPassages cX11_withPassages 3 3 (some .int) [.ref 122] S (some (.int r)) S' := by
  refine zM_of (zpl (by decide)) (Nat.le_of_ble_eq_true rfl) rfl (fun K hK hA => ?_)
  unfold f_X11_withPassages at hf
  refine j_iconst hK (0 : Int32) dX11_withPassages_0 ic_0 ?_
  refine j_istore_n hK (L' := [(1, .int (0 : Int32)), (0, .ref 122)]) dX11_withPassages_1 rfl (by decide) rfl ?_
  refine j_iconst hK (0 : Int32) dX11_withPassages_2 ic_0 ?_
  refine j_istore_n hK (L' := [(2, .int (0 : Int32)), (1, .int (0 : Int32)), (0, .ref 122)]) dX11_withPassages_3 rfl (by decide) rfl ?_
  refine j_sub [2, 1, 0] rfl ?_
  refine t_X11_withPassages_4 hK hA  (fun v5 S6 hf => ?_) _ _ _ hf
  refine j_iload_n hK dX11_withPassages_34 0 rfl rfl ?_
  exact j_iret hK dX11_withPassages_35 rfl (rt_I hA hf)
def f_X11_needed_140 (x1 : Int32) (x2 : Int32) (x4 : Int32) (s0 : Int32) (s1 : Int32) (k e : Int32 × Int32 → St → Option (Int32 × St)) (S : St) : Option (Int32 × St) := bd (f_X11_flag s1 S) (fun r1 S2 => lt (s0 + r1) (fun y4 => k (y4, (x4 + (1 : Int32))) S2))
theorem t_X11_needed_140 {K : CT} (hK : KO K cX11_needed RX11 5 4 (some .int)) {r : Int32} {S' : St} (hA : zans K (some (.int r), S')) {x1 : Int32} {x2 : Int32} {x4 : Int32} {s0 : Int32} {s1 : Int32} {k e : Int32 × Int32 → St → Option (Int32 × St)} (hk : ∀ (v : Int32 × Int32) (S : St), k v S = some (r, S') → J K 104 [(0, .ref 122), (1, .int x1), (2, .int x2), (3, .int v.1), (4, .int v.2)] [] S) (he : ∀ (v : Int32 × Int32) (S : St), e v S = some (r, S') → J K 151 [(0, .ref 122), (1, .int x1), (2, .int x2), (3, .int v.1)] [] S) {S : St} (hf : f_X11_needed_140 x1 x2 x4 s0 s1 k e S = some (r, S')) : J K 140 [(0, .ref 122), (1, .int x1), (2, .int x2), (4, .int x4)] [.int s1, .int s0] S := by
  unfold f_X11_needed_140 at hf
  obtain ⟨r1, S2, h3, hf⟩ := bd_J hf
  refine k_callSi hK (c_X11_flag h3) dX11_needed_140 ml_X11_155 ms_X11_flag in_X11 mc_X11_flag hy_X11_flag ⟨by decide, by decide⟩ rfl (Nat.le_of_ble_eq_true rfl) ?_
  refine j_iadd hK dX11_needed_143 ?_
  refine lt_I hf (fun y4 hf => ?_)
  refine j_istore_n hK (L' := [(3, .int y4), (0, .ref 122), (1, .int x1), (2, .int x2), (4, .int x4)]) dX11_needed_144 rfl (by decide) rfl ?_
  refine j_iinc hK (L' := [(4, .int (x4 + (1 : Int32))), (3, .int y4), (0, .ref 122), (1, .int x1), (2, .int x2)]) dX11_needed_145 4 rfl (congrArg (fun y => x4 + y) ic_1) (by decide) rfl ?_
  refine j_goto hK 104 dX11_needed_148 (by decide) ?_
  refine j_sub [2, 3, 4, 1, 0] rfl ?_
  exact hk _ _ hf
def f_X11_needed_139 (x1 : Int32) (x2 : Int32) (x4 : Int32) (s0 : Int32) (k e : Int32 × Int32 → St → Option (Int32 × St)) (S : St) : Option (Int32 × St) := f_X11_needed_140 x1 x2 x4 s0 (0 : Int32) k e S
theorem t_X11_needed_139 {K : CT} (hK : KO K cX11_needed RX11 5 4 (some .int)) {r : Int32} {S' : St} (hA : zans K (some (.int r), S')) {x1 : Int32} {x2 : Int32} {x4 : Int32} {s0 : Int32} {k e : Int32 × Int32 → St → Option (Int32 × St)} (hk : ∀ (v : Int32 × Int32) (S : St), k v S = some (r, S') → J K 104 [(0, .ref 122), (1, .int x1), (2, .int x2), (3, .int v.1), (4, .int v.2)] [] S) (he : ∀ (v : Int32 × Int32) (S : St), e v S = some (r, S') → J K 151 [(0, .ref 122), (1, .int x1), (2, .int x2), (3, .int v.1)] [] S) {S : St} (hf : f_X11_needed_139 x1 x2 x4 s0 k e S = some (r, S')) : J K 139 [(0, .ref 122), (1, .int x1), (2, .int x2), (4, .int x4)] [.int s0] S := by
  unfold f_X11_needed_139 at hf
  refine j_iconst hK (0 : Int32) dX11_needed_139 ic_0 ?_
  exact t_X11_needed_140 hK hA hk he hf
def f_X11_needed_104b (x1 : Int32) (x2 : Int32) (e : Int32 × Int32 → St → Option (Int32 × St)) (k : Int32 × Int32 → St → Option (Int32 × St)) (v : Int32 × Int32) (S : St) : Option (Int32 × St) := (if (8 : Int32) ≤ v.2 then e (v.1, v.2) S else bd (f_X11_has x2 v.2 S) (fun r5 S6 => (if r5 = 0 then f_X11_needed_139 x1 x2 v.2 v.1 k e S6 else bd (f_X11_joinedTo v.2 S6) (fun r8 S9 => bd (f_J6_numberOfTrailingZeros_0f7a4 r8 S9) (fun r11 S12 => (if r11 = v.2 then f_X11_needed_140 x1 x2 v.2 v.1 (1 : Int32) k e S12 else f_X11_needed_139 x1 x2 v.2 v.1 k e S12))))))
theorem t_X11_needed_104 {K : CT} (hK : KO K cX11_needed RX11 5 4 (some .int)) {r : Int32} {S' : St} (hA : zans K (some (.int r), S')) {x1 : Int32} {x2 : Int32} {e : Int32 × Int32 → St → Option (Int32 × St)} (he : ∀ (v : Int32 × Int32) (S : St), e v S = some (r, S') → J K 151 [(0, .ref 122), (1, .int x1), (2, .int x2), (3, .int v.1)] [] S) : ∀ (n : Nat) (v : Int32 × Int32) (S : St), lp (f_X11_needed_104b x1 x2 e) n v S = some (r, S') → J K 104 [(0, .ref 122), (1, .int x1), (2, .int x2), (3, .int v.1), (4, .int v.2)] [] S :=
  lp_J (P := fun (v : Int32 × Int32) (S : St) => J K 104 [(0, .ref 122), (1, .int x1), (2, .int x2), (3, .int v.1), (4, .int v.2)] [] S) (fun k hk v S hf => by
    unfold f_X11_needed_104b at hf
    refine j_iload hK dX11_needed_104 4 rfl ?_
    refine j_bipush hK (8 : Int32) dX11_needed_106 bi_8 ?_
    refine j_icmp_ge hK 151 dX11_needed_108 (by decide) (fun hc => ?_) (fun hc => ?_)
    · replace hf := if_1 hc hf
      refine j_sub [0, 1, 2, 3] rfl ?_
      exact he _ _ hf
    · replace hf := if_2 hc hf
      refine j_iload_n hK dX11_needed_111 3 rfl rfl ?_
      refine j_iload_n hK dX11_needed_112 2 rfl rfl ?_
      refine j_iload hK dX11_needed_113 4 rfl ?_
      obtain ⟨r5, S6, h7, hf⟩ := bd_J hf
      refine k_callSi hK (c_X11_has h7) dX11_needed_115 ml_X11_262 ms_X11_has in_X11 mc_X11_has hy_X11_has ⟨by decide, by decide⟩ rfl (Nat.le_of_ble_eq_true rfl) ?_
      refine j_if_eq hK 139 dX11_needed_118 (by decide) (fun hc => ?_) (fun hc => ?_)
      · replace hf := if_1 hc hf
        refine j_sub [0, 1, 2, 4] rfl ?_
        exact t_X11_needed_139 hK hA hk he hf
      · replace hf := if_2 hc hf
        refine j_aload_n hK dX11_needed_121 0 rfl rfl ?_
        refine j_iload hK dX11_needed_122 4 rfl ?_
        obtain ⟨r8, S9, h10, hf⟩ := bd_J hf
        refine k_callVi hK (c_X11_joinedTo h10) dX11_needed_124 zclX11 zo_122 ml_X11_308 mi_X11_joinedTo mx_X11_joinedTo in_X11 mc_X11_joinedTo hy_X11_joinedTo ⟨by decide, by decide⟩ rfl (Nat.le_of_ble_eq_true rfl) ?_
        obtain ⟨r11, S12, h13, hf⟩ := bd_J hf
        refine k_callSi hK (c_J6_numberOfTrailingZeros_0f7a4 h13) dX11_needed_127 ml_X11_395 ms_J6_numberOfTrailingZeros_0f7a4 in_J6 mc_J6_numberOfTrailingZeros_0f7a4 hy_J6_numberOfTrailingZeros_0f7a4 ⟨by decide, by decide⟩ rfl (Nat.le_of_ble_eq_true rfl) ?_
        refine j_iload hK dX11_needed_130 4 rfl ?_
        refine j_icmp_ne hK 139 dX11_needed_132 (by decide) (fun hc => ?_) (fun hc => ?_)
        · replace hf := if_2 hc hf
          refine j_sub [0, 1, 2, 4] rfl ?_
          exact t_X11_needed_139 hK hA hk he hf
        · replace hf := if_1 hc hf
          refine j_iconst hK (1 : Int32) dX11_needed_135 ic_1 ?_
          refine j_goto hK 140 dX11_needed_136 (by decide) ?_
          refine j_sub [0, 1, 2, 4] rfl ?_
          exact t_X11_needed_140 hK hA hk he hf)
def f_X11_needed_77 (x1 : Int32) (x2 : Int32) (k e : Int32 × Int32 → St → Option (Int32 × St)) (S : St) : Option (Int32 × St) := k (x1, (x2 + (1 : Int32))) S
theorem t_X11_needed_77 {K : CT} (hK : KO K cX11_needed RX11 5 4 (some .int)) {r : Int32} {S' : St} (hA : zans K (some (.int r), S')) {x1 : Int32} {x2 : Int32} {k e : Int32 × Int32 → St → Option (Int32 × St)} (hk : ∀ (v : Int32 × Int32) (S : St), k v S = some (r, S') → J K 9 [(0, .ref 122), (1, .int v.1), (2, .int v.2)] [] S) (he : ∀ (v : Int32 × Int32) (S : St), e v S = some (r, S') → J K 83 [(0, .ref 122), (1, .int v.1)] [] S) {S : St} (hf : f_X11_needed_77 x1 x2 k e S = some (r, S')) : J K 77 [(0, .ref 122), (1, .int x1), (2, .int x2)] [] S := by
  unfold f_X11_needed_77 at hf
  refine j_iinc hK (L' := [(2, .int (x2 + (1 : Int32))), (0, .ref 122), (1, .int x1)]) dX11_needed_77 2 rfl (congrArg (fun y => x2 + y) ic_1) (by decide) rfl ?_
  refine j_goto hK 9 dX11_needed_80 (by decide) ?_
  refine j_sub [1, 2, 0] rfl ?_
  exact hk _ _ hf
def f_X11_needed_75 (x2 : Int32) (s0 : Int32) (s1 : Int32) (k e : Int32 × Int32 → St → Option (Int32 × St)) (S : St) : Option (Int32 × St) := lt (s0 ||| s1) (fun y14 => f_X11_needed_77 y14 x2 k e S)
theorem t_X11_needed_75 {K : CT} (hK : KO K cX11_needed RX11 5 4 (some .int)) {r : Int32} {S' : St} (hA : zans K (some (.int r), S')) {x2 : Int32} {s0 : Int32} {s1 : Int32} {k e : Int32 × Int32 → St → Option (Int32 × St)} (hk : ∀ (v : Int32 × Int32) (S : St), k v S = some (r, S') → J K 9 [(0, .ref 122), (1, .int v.1), (2, .int v.2)] [] S) (he : ∀ (v : Int32 × Int32) (S : St), e v S = some (r, S') → J K 83 [(0, .ref 122), (1, .int v.1)] [] S) {S : St} (hf : f_X11_needed_75 x2 s0 s1 k e S = some (r, S')) : J K 75 [(0, .ref 122), (2, .int x2)] [.int s1, .int s0] S := by
  unfold f_X11_needed_75 at hf
  refine j_ior hK dX11_needed_75 ?_
  refine lt_I hf (fun y14 hf => ?_)
  refine j_istore_n hK (L' := [(1, .int y14), (0, .ref 122), (2, .int x2)]) dX11_needed_76 rfl (by decide) rfl ?_
  refine j_sub [1, 0, 2] rfl ?_
  exact t_X11_needed_77 hK hA hk he hf
def f_X11_needed_9b (e : Int32 × Int32 → St → Option (Int32 × St)) (k : Int32 × Int32 → St → Option (Int32 × St)) (v : Int32 × Int32) (S : St) : Option (Int32 × St) := (if (gI S 122 3) ≤ v.2 then e (v.1, v.2) S else bd (f_X11_has (gI S 126 36) v.2 S) (fun r15 S16 => (if r15 = 0 then f_X11_needed_77 v.1 v.2 k e S16 else lt ((gI S16 126 36) &&& (((1 : Int32) <<< (v.2 &&& 31)) ^^^ (-1 : Int32))) (fun y18 => bd (f_X11_laysFar y18 S16) (fun r19 S20 => if inb v.2 12 then if inb v.2 12 then bd (f_X11_areJoined (gI S20 124 v.2.toNatClampNeg) (gI S20 125 v.2.toNatClampNeg) S20) (fun r24 S25 => (if r24 = 0 then f_X11_needed_75 v.2 v.1 ((1 : Int32) <<< (v.2 &&& 31)) k e S25 else f_X11_needed_75 v.2 v.1 (0 : Int32) k e S25)) else none else none)))))
theorem t_X11_needed_9 {K : CT} (hK : KO K cX11_needed RX11 5 4 (some .int)) {r : Int32} {S' : St} (hA : zans K (some (.int r), S')) {e : Int32 × Int32 → St → Option (Int32 × St)} (he : ∀ (v : Int32 × Int32) (S : St), e v S = some (r, S') → J K 83 [(0, .ref 122), (1, .int v.1)] [] S) : ∀ (n : Nat) (v : Int32 × Int32) (S : St), lp (f_X11_needed_9b  e) n v S = some (r, S') → J K 9 [(0, .ref 122), (1, .int v.1), (2, .int v.2)] [] S :=
  lp_J (P := fun (v : Int32 × Int32) (S : St) => J K 9 [(0, .ref 122), (1, .int v.1), (2, .int v.2)] [] S) (fun k hk v S hf => by
    unfold f_X11_needed_9b at hf
    refine j_iload_n hK dX11_needed_9 2 rfl rfl ?_
    refine j_aload_n hK dX11_needed_10 0 rfl rfl ?_
    refine j_getI hK fl_X11_128 dX11_needed_11 zo_122 zf_11_3 ?_
    refine j_icmp_ge hK 83 dX11_needed_14 (by decide) (fun hc => ?_) (fun hc => ?_)
    · replace hf := if_1 hc hf
      refine j_sub [0, 1] rfl ?_
      exact he _ _ hf
    · replace hf := if_2 hc hf
      refine j_aload_n hK dX11_needed_17 0 rfl rfl ?_
      refine j_getR hK fl_X11_31 dX11_needed_18 zo_122 zf_11_7 zr_122_7 ?_
      refine j_bipush hK (36 : Int32) dX11_needed_21 bi_36 ?_
      refine k_iald hK dX11_needed_23 zb_126 (by decide) tn_36 ?_
      refine j_iload_n hK dX11_needed_24 2 rfl rfl ?_
      obtain ⟨r15, S16, h17, hf⟩ := bd_J hf
      refine k_callSi hK (c_X11_has h17) dX11_needed_25 ml_X11_262 ms_X11_has in_X11 mc_X11_has hy_X11_has ⟨by decide, by decide⟩ rfl (Nat.le_of_ble_eq_true rfl) ?_
      refine j_if_eq hK 77 dX11_needed_28 (by decide) (fun hc => ?_) (fun hc => ?_)
      · replace hf := if_1 hc hf
        exact t_X11_needed_77 hK hA hk he hf
      · replace hf := if_2 hc hf
        refine j_aload_n hK dX11_needed_31 0 rfl rfl ?_
        refine j_aload_n hK dX11_needed_32 0 rfl rfl ?_
        refine j_getR hK fl_X11_31 dX11_needed_33 zo_122 zf_11_7 zr_122_7 ?_
        refine j_bipush hK (36 : Int32) dX11_needed_36 bi_36 ?_
        refine k_iald hK dX11_needed_38 zb_126 (by decide) tn_36 ?_
        refine j_iconst hK (1 : Int32) dX11_needed_39 ic_1 ?_
        refine j_iload_n hK dX11_needed_40 2 rfl rfl ?_
        refine j_pc (pc' := 41) rfl ?_
        refine j_ishl hK dX11_needed_41 ?_
        refine j_iconst hK (-1 : Int32) dX11_needed_42 ic_m1 ?_
        refine j_ixor hK dX11_needed_43 ?_
        refine j_iand hK dX11_needed_44 ?_
        refine lt_I hf (fun y18 hf => ?_)
        obtain ⟨r19, S20, h21, hf⟩ := bd_J hf
        refine k_callVv hK (c_X11_laysFar h21) dX11_needed_45 zclX11 zo_122 ml_X11_302 mi_X11_laysFar mx_X11_laysFar in_X11 mc_X11_laysFar hy_X11_laysFar ⟨by decide, by decide⟩ rfl (Nat.le_of_ble_eq_true rfl) ?_
        refine j_iload_n hK dX11_needed_48 1 rfl rfl ?_
        refine j_aload_n hK dX11_needed_49 0 rfl rfl ?_
        refine j_aload_n hK dX11_needed_50 0 rfl rfl ?_
        refine j_pc (pc' := 51) rfl ?_
        refine j_getR hK fl_X11_24 dX11_needed_51 zo_122 zf_11_5 zr_122_5 ?_
        refine j_iload_n hK dX11_needed_54 2 rfl rfl ?_
        obtain ⟨hi22, hf⟩ := gd hf
        refine k_iald hK dX11_needed_55 zb_124 hi22 rfl ?_
        refine j_aload_n hK dX11_needed_56 0 rfl rfl ?_
        refine j_getR hK fl_X11_28 dX11_needed_57 zo_122 zf_11_6 zr_122_6 ?_
        refine j_iload_n hK dX11_needed_60 2 rfl rfl ?_
        obtain ⟨hi23, hf⟩ := gd hf
        refine k_iald hK dX11_needed_61 zb_125 hi23 rfl ?_
        obtain ⟨r24, S25, h26, hf⟩ := bd_J hf
        refine k_callVi hK (c_X11_areJoined h26) dX11_needed_62 zclX11 zo_122 ml_X11_294 mi_X11_areJoined mx_X11_areJoined in_X11 mc_X11_areJoined hy_X11_areJoined ⟨by decide, by decide⟩ rfl (Nat.le_of_ble_eq_true rfl) ?_
        refine j_pc (pc' := 65) rfl ?_
        refine j_if_eq hK 72 dX11_needed_65 (by decide) (fun hc => ?_) (fun hc => ?_)
        · replace hf := if_1 hc hf
          refine j_iconst hK (1 : Int32) dX11_needed_72 ic_1 ?_
          refine j_iload_n hK dX11_needed_73 2 rfl rfl ?_
          refine j_ishl hK dX11_needed_74 ?_
          refine j_sub [0, 2] rfl ?_
          exact t_X11_needed_75 hK hA hk he hf
        · replace hf := if_2 hc hf
          refine j_iconst hK (0 : Int32) dX11_needed_68 ic_0 ?_
          refine j_goto hK 75 dX11_needed_69 (by decide) ?_
          refine j_sub [0, 2] rfl ?_
          exact t_X11_needed_75 hK hA hk he hf)
def f_X11_needed (S : St) : Option (Int32 × St) := lt (sI S 122 0 (0 : Int32)) (fun S27 => lp (f_X11_needed_9b  (fun v28 S29 => bd (f_X11_laysFar (gI S29 126 36) S29) (fun r30 S31 => bd (f_X11_withPassages S31) (fun r33 S34 => lp (f_X11_needed_104b v28.1 r33 (fun v36 S37 => lt (sI S37 122 1 (0 : Int32)) (fun S38 => bd (f_J6_bitCount_0f7a4 v28.1 S38) (fun r39 S40 => bd (f_X11_enters r39.toInt64 S40) (fun r42 S43 => bd (f_J6_bitCount_0f7a4 r33 S43) (fun r45 S46 => bd (f_X11_enters r45.toInt64 S46) (fun r48 S49 => bd (f_X11_enters v36.1.toInt64 S49) (fun r51 S52 => some (v28.1, S52))))))))) FU ((0 : Int32), (0 : Int32)) S34)))) FU ((0 : Int32), (0 : Int32)) S27)
theorem c_X11_needed {S : St} {r : Int32} {S' : St} (hf : f_X11_needed S = some (r, S')) : zM yX11_needed cX11_needed 5 4 (some .int) [.ref 122] S (some (.int r)) S' := by
  refine zM_of (zpl (by decide)) (Nat.le_of_ble_eq_true rfl) rfl (fun K hK hA => ?_)
  unfold f_X11_needed at hf
  refine j_aload_n hK dX11_needed_0 0 rfl rfl ?_
  refine j_iconst hK (0 : Int32) dX11_needed_1 ic_0 ?_
  refine j_putI hK fl_X11_3 dX11_needed_2 zo_122 zf_11_0 ?_
  refine lt_S hf (fun S27 hf => ?_)
  refine j_iconst hK (0 : Int32) dX11_needed_5 ic_0 ?_
  refine j_istore_n hK (L' := [(1, .int (0 : Int32)), (0, .ref 122)]) dX11_needed_6 rfl (by decide) rfl ?_
  refine j_iconst hK (0 : Int32) dX11_needed_7 ic_0 ?_
  refine j_istore_n hK (L' := [(2, .int (0 : Int32)), (1, .int (0 : Int32)), (0, .ref 122)]) dX11_needed_8 rfl (by decide) rfl ?_
  refine j_sub [2, 1, 0] rfl ?_
  refine t_X11_needed_9 hK hA  (fun v28 S29 hf => ?_) _ _ _ hf
  refine j_aload_n hK dX11_needed_83 0 rfl rfl ?_
  refine j_aload_n hK dX11_needed_84 0 rfl rfl ?_
  refine j_getR hK fl_X11_31 dX11_needed_85 zo_122 zf_11_7 zr_122_7 ?_
  refine j_bipush hK (36 : Int32) dX11_needed_88 bi_36 ?_
  refine k_iald hK dX11_needed_90 zb_126 (by decide) tn_36 ?_
  obtain ⟨r30, S31, h32, hf⟩ := bd_J hf
  refine k_callVv hK (c_X11_laysFar h32) dX11_needed_91 zclX11 zo_122 ml_X11_302 mi_X11_laysFar mx_X11_laysFar in_X11 mc_X11_laysFar hy_X11_laysFar ⟨by decide, by decide⟩ rfl (Nat.le_of_ble_eq_true rfl) ?_
  refine j_aload_n hK dX11_needed_94 0 rfl rfl ?_
  refine j_pc (pc' := 95) rfl ?_
  obtain ⟨r33, S34, h35, hf⟩ := bd_J hf
  refine k_callVi hK (c_X11_withPassages h35) dX11_needed_95 zclX11 zo_122 ml_X11_392 mi_X11_withPassages mx_X11_withPassages in_X11 mc_X11_withPassages hy_X11_withPassages ⟨by decide, by decide⟩ rfl (Nat.le_of_ble_eq_true rfl) ?_
  refine j_istore_n hK (L' := [(2, .int r33), (0, .ref 122), (1, .int v28.1)]) dX11_needed_98 rfl (by decide) rfl ?_
  refine j_iconst hK (0 : Int32) dX11_needed_99 ic_0 ?_
  refine j_istore_n hK (L' := [(3, .int (0 : Int32)), (2, .int r33), (0, .ref 122), (1, .int v28.1)]) dX11_needed_100 rfl (by decide) rfl ?_
  refine j_iconst hK (0 : Int32) dX11_needed_101 ic_0 ?_
  refine j_istore hK (L' := [(4, .int (0 : Int32)), (3, .int (0 : Int32)), (2, .int r33), (0, .ref 122), (1, .int v28.1)]) dX11_needed_102 (by decide) rfl ?_
  refine j_sub [3, 4, 2, 1, 0] rfl ?_
  refine t_X11_needed_104 hK hA  (fun v36 S37 hf => ?_) _ _ _ hf
  refine j_aload_n hK dX11_needed_151 0 rfl rfl ?_
  refine j_iconst hK (0 : Int32) dX11_needed_152 ic_0 ?_
  refine j_putI hK fl_X11_15 dX11_needed_153 zo_122 zf_11_1 ?_
  refine lt_S hf (fun S38 hf => ?_)
  refine j_aload_n hK dX11_needed_156 0 rfl rfl ?_
  refine j_iload_n hK dX11_needed_157 1 rfl rfl ?_
  obtain ⟨r39, S40, h41, hf⟩ := bd_J hf
  refine k_callSi hK (c_J6_bitCount_0f7a4 h41) dX11_needed_158 ml_X11_355 ms_J6_bitCount_0f7a4 in_J6 mc_J6_bitCount_0f7a4 hy_J6_bitCount_0f7a4 ⟨by decide, by decide⟩ rfl (Nat.le_of_ble_eq_true rfl) ?_
  refine j_i2l hK dX11_needed_161 ?_
  refine j_pc (pc' := 162) rfl ?_
  obtain ⟨r42, S43, h44, hf⟩ := bd_J hf
  refine k_callVv hK (c_X11_enters h44) dX11_needed_162 zclX11 zo_122 ml_X11_340 mi_X11_enters mx_X11_enters in_X11 mc_X11_enters hy_X11_enters ⟨by decide, by decide⟩ rfl (Nat.le_of_ble_eq_true rfl) ?_
  refine j_aload_n hK dX11_needed_165 0 rfl rfl ?_
  refine j_iload_n hK dX11_needed_166 2 rfl rfl ?_
  obtain ⟨r45, S46, h47, hf⟩ := bd_J hf
  refine k_callSi hK (c_J6_bitCount_0f7a4 h47) dX11_needed_167 ml_X11_355 ms_J6_bitCount_0f7a4 in_J6 mc_J6_bitCount_0f7a4 hy_J6_bitCount_0f7a4 ⟨by decide, by decide⟩ rfl (Nat.le_of_ble_eq_true rfl) ?_
  refine j_i2l hK dX11_needed_170 ?_
  obtain ⟨r48, S49, h50, hf⟩ := bd_J hf
  refine k_callVv hK (c_X11_enters h50) dX11_needed_171 zclX11 zo_122 ml_X11_340 mi_X11_enters mx_X11_enters in_X11 mc_X11_enters hy_X11_enters ⟨by decide, by decide⟩ rfl (Nat.le_of_ble_eq_true rfl) ?_
  refine j_aload_n hK dX11_needed_174 0 rfl rfl ?_
  refine j_iload_n hK dX11_needed_175 3 rfl rfl ?_
  refine j_pc (pc' := 176) rfl ?_
  refine j_i2l hK dX11_needed_176 ?_
  obtain ⟨r51, S52, h53, hf⟩ := bd_J hf
  refine k_callVv hK (c_X11_enters h53) dX11_needed_177 zclX11 zo_122 ml_X11_340 mi_X11_enters mx_X11_enters in_X11 mc_X11_enters hy_X11_enters ⟨by decide, by decide⟩ rfl (Nat.le_of_ble_eq_true rfl) ?_
  refine j_iload_n hK dX11_needed_180 1 rfl rfl ?_
  exact j_iret hK dX11_needed_181 rfl (rt_I hA hf)
def f_X11_place (p0 : Int32) (p1 : Int32) (S : St) : Option (Int32 × St) := some ((((8 : Int32) * p0) + p1), S)
theorem c_X11_place {p0 : Int32} {p1 : Int32} {S : St} {r : Int32} {S' : St} (hf : f_X11_place p0 p1 S = some (r, S')) : zM yX11_place cX11_place 2 1 (some .int) [.int p0, .int p1] S (some (.int r)) S' := by
  refine zM_of (zpl (by decide)) (Nat.le_of_ble_eq_true rfl) rfl (fun K hK hA => ?_)
  unfold f_X11_place at hf
  refine j_bipush hK (8 : Int32) dX11_place_0 bi_8 ?_
  refine j_iload_n hK dX11_place_2 0 rfl rfl ?_
  refine j_imul hK dX11_place_3 ?_
  refine j_iload_n hK dX11_place_4 1 rfl rfl ?_
  refine j_iadd hK dX11_place_5 ?_
  exact j_iret hK dX11_place_6 rfl (rt_I hA hf)
def f_X11_tour_265 (x1 : Int32) (x3 : Int32) (x4 : Int32) (x5 : Int32) (x6 : Int32) (k e : Int32 → St → Option (Int32 × St)) (S : St) : Option (Int32 × St) := k (x6 + (1 : Int32)) S
theorem t_X11_tour_265 {K : CT} (hK : KO K cX11_tour RX11 8 4 (some .int)) {r : Int32} {S' : St} (hA : zans K (some (.int r), S')) {x1 : Int32} {x3 : Int32} {x4 : Int32} {x5 : Int32} {x6 : Int32} {k e : Int32 → St → Option (Int32 × St)} (hk : ∀ (v : Int32) (S : St), k v S = some (r, S') → J K 212 [(0, .ref 122), (1, .int x1), (3, .int x3), (4, .int x4), (5, .int x5), (6, .int v)] [] S) (he : ∀ (v : Int32) (S : St), e v S = some (r, S') → J K 271 [(0, .ref 122), (1, .int x1), (3, .int x3), (5, .int x5), (6, .int v)] [] S) {S : St} (hf : f_X11_tour_265 x1 x3 x4 x5 x6 k e S = some (r, S')) : J K 265 [(0, .ref 122), (1, .int x1), (3, .int x3), (4, .int x4), (5, .int x5), (6, .int x6)] [] S := by
  unfold f_X11_tour_265 at hf
  refine j_iinc hK (L' := [(6, .int (x6 + (1 : Int32))), (0, .ref 122), (1, .int x1), (3, .int x3), (4, .int x4), (5, .int x5)]) dX11_tour_265 5 rfl (congrArg (fun y => x6 + y) ic_1) (by decide) rfl ?_
  refine j_goto hK 212 dX11_tour_268 (by decide) ?_
  refine j_sub [1, 2, 3, 4, 5, 0] rfl ?_
  exact hk _ _ hf
def f_X11_tour_212b (x1 : Int32) (x3 : Int32) (x4 : Int32) (x5 : Int32) (e : Int32 → St → Option (Int32 × St)) (k : Int32 → St → Option (Int32 × St)) (v : Int32) (S : St) : Option (Int32 × St) := bd (f_X11_has x5 v S) (fun r1 S2 => (if r1 = 0 then f_X11_tour_265 x1 x3 x4 x5 v k e S2 else bd (f_X11_farOf x4 v S2) (fun r4 S5 => bd (f_X11_place (x5 &&& (((1 : Int32) <<< (v &&& 31)) ^^^ (-1 : Int32))) v S5) (fun r7 S8 => if inb r7 2048 then bd (f_X11_place x5 x4 S8) (fun r11 S12 => if inb r11 2048 then (if (r4 + (gI S8 145 r7.toNatClampNeg)) = (gI S12 145 r11.toNatClampNeg) then e v S12 else f_X11_tour_265 x1 x3 x4 x5 v k e S12) else none) else none))))
theorem t_X11_tour_212 {K : CT} (hK : KO K cX11_tour RX11 8 4 (some .int)) {r : Int32} {S' : St} (hA : zans K (some (.int r), S')) {x1 : Int32} {x3 : Int32} {x4 : Int32} {x5 : Int32} {e : Int32 → St → Option (Int32 × St)} (he : ∀ (v : Int32) (S : St), e v S = some (r, S') → J K 271 [(0, .ref 122), (1, .int x1), (3, .int x3), (5, .int x5), (6, .int v)] [] S) : ∀ (n : Nat) (v : Int32) (S : St), lp (f_X11_tour_212b x1 x3 x4 x5 e) n v S = some (r, S') → J K 212 [(0, .ref 122), (1, .int x1), (3, .int x3), (4, .int x4), (5, .int x5), (6, .int v)] [] S :=
  lp_J (P := fun (v : Int32) (S : St) => J K 212 [(0, .ref 122), (1, .int x1), (3, .int x3), (4, .int x4), (5, .int x5), (6, .int v)] [] S) (fun k hk v S hf => by
    unfold f_X11_tour_212b at hf
    refine j_iload hK dX11_tour_212 4 rfl ?_
    refine j_iload hK dX11_tour_214 5 rfl ?_
    obtain ⟨r1, S2, h3, hf⟩ := bd_J hf
    refine k_callSi hK (c_X11_has h3) dX11_tour_216 ml_X11_262 ms_X11_has in_X11 mc_X11_has hy_X11_has ⟨by decide, by decide⟩ rfl (Nat.le_of_ble_eq_true rfl) ?_
    refine j_if_eq hK 265 dX11_tour_219 (by decide) (fun hc => ?_) (fun hc => ?_)
    · replace hf := if_1 hc hf
      exact t_X11_tour_265 hK hA hk he hf
    · replace hf := if_2 hc hf
      refine j_aload_n hK dX11_tour_222 0 rfl rfl ?_
      refine j_iload hK dX11_tour_223 3 rfl ?_
      refine j_iload hK dX11_tour_225 5 rfl ?_
      obtain ⟨r4, S5, h6, hf⟩ := bd_J hf
      refine k_callVi hK (c_X11_farOf h6) dX11_tour_227 zclX11 zo_122 ml_X11_291 mi_X11_farOf mx_X11_farOf in_X11 mc_X11_farOf hy_X11_farOf ⟨by decide, by decide⟩ rfl (Nat.le_of_ble_eq_true rfl) ?_
      refine j_aload_n hK dX11_tour_230 0 rfl rfl ?_
      refine j_getR hK fl_X11_89 dX11_tour_231 zo_122 zf_11_38 zr_122_38 ?_
      refine j_iload hK dX11_tour_234 4 rfl ?_
      refine j_pc (pc' := 236) rfl ?_
      refine j_iconst hK (1 : Int32) dX11_tour_236 ic_1 ?_
      refine j_iload hK dX11_tour_237 5 rfl ?_
      refine j_ishl hK dX11_tour_239 ?_
      refine j_iconst hK (-1 : Int32) dX11_tour_240 ic_m1 ?_
      refine j_ixor hK dX11_tour_241 ?_
      refine j_iand hK dX11_tour_242 ?_
      refine j_iload hK dX11_tour_243 5 rfl ?_
      obtain ⟨r7, S8, h9, hf⟩ := bd_J hf
      refine k_callSi hK (c_X11_place h9) dX11_tour_245 ml_X11_400 ms_X11_place in_X11 mc_X11_place hy_X11_place ⟨by decide, by decide⟩ rfl (Nat.le_of_ble_eq_true rfl) ?_
      refine j_pc (pc' := 248) rfl ?_
      obtain ⟨hi10, hf⟩ := gd hf
      refine k_iald hK dX11_tour_248 zb_145 hi10 rfl ?_
      refine j_iadd hK dX11_tour_249 ?_
      refine j_aload_n hK dX11_tour_250 0 rfl rfl ?_
      refine j_getR hK fl_X11_89 dX11_tour_251 zo_122 zf_11_38 zr_122_38 ?_
      refine j_iload hK dX11_tour_254 4 rfl ?_
      refine j_iload hK dX11_tour_256 3 rfl ?_
      obtain ⟨r11, S12, h13, hf⟩ := bd_J hf
      refine k_callSi hK (c_X11_place h13) dX11_tour_258 ml_X11_400 ms_X11_place in_X11 mc_X11_place hy_X11_place ⟨by decide, by decide⟩ rfl (Nat.le_of_ble_eq_true rfl) ?_
      obtain ⟨hi14, hf⟩ := gd hf
      refine k_iald hK dX11_tour_261 zb_145 hi14 rfl ?_
      refine j_pc (pc' := 262) rfl ?_
      refine j_icmp_eq hK 271 dX11_tour_262 (by decide) (fun hc => ?_) (fun hc => ?_)
      · replace hf := if_1 hc hf
        refine j_sub [0, 1, 2, 4, 5] rfl ?_
        exact he _ _ hf
      · replace hf := if_2 hc hf
        exact t_X11_tour_265 hK hA hk he hf)
def f_X11_tour_204b (x1 : Int32) (x3 : Int32) (e : Int32 × Int32 → St → Option (Int32 × St)) (k : Int32 × Int32 → St → Option (Int32 × St)) (v : Int32 × Int32) (S : St) : Option (Int32 × St) := (if v.2 = 0 then e (v.1, v.2) S else lp (f_X11_tour_212b x1 x3 v.1 v.2 (fun v15 S16 => lt (v.2 &&& (((1 : Int32) <<< (v15 &&& 31)) ^^^ (-1 : Int32))) (fun y17 => bd (f_X11_enters v15.toInt64 S16) (fun r18 S19 => k (v15, y17) S19)))) FU (0 : Int32) S)
theorem t_X11_tour_204 {K : CT} (hK : KO K cX11_tour RX11 8 4 (some .int)) {r : Int32} {S' : St} (hA : zans K (some (.int r), S')) {x1 : Int32} {x3 : Int32} {e : Int32 × Int32 → St → Option (Int32 × St)} (he : ∀ (v : Int32 × Int32) (S : St), e v S = some (r, S') → J K 296 [(0, .ref 122), (1, .int x1), (3, .int x3)] [] S) : ∀ (n : Nat) (v : Int32 × Int32) (S : St), lp (f_X11_tour_204b x1 x3 e) n v S = some (r, S') → J K 204 [(0, .ref 122), (1, .int x1), (3, .int x3), (4, .int v.1), (5, .int v.2)] [] S :=
  lp_J (P := fun (v : Int32 × Int32) (S : St) => J K 204 [(0, .ref 122), (1, .int x1), (3, .int x3), (4, .int v.1), (5, .int v.2)] [] S) (fun k hk v S hf => by
    unfold f_X11_tour_204b at hf
    refine j_iload hK dX11_tour_204 4 rfl ?_
    refine j_if_eq hK 296 dX11_tour_206 (by decide) (fun hc => ?_) (fun hc => ?_)
    · replace hf := if_1 hc hf
      refine j_sub [0, 1, 2] rfl ?_
      exact he _ _ hf
    · replace hf := if_2 hc hf
      refine j_iconst hK (0 : Int32) dX11_tour_209 ic_0 ?_
      refine j_istore hK (L' := [(6, .int (0 : Int32)), (0, .ref 122), (1, .int x1), (3, .int x3), (4, .int v.1), (5, .int v.2)]) dX11_tour_210 (by decide) rfl ?_
      refine j_sub [1, 2, 3, 4, 5, 0] rfl ?_
      refine t_X11_tour_212 hK hA  (fun v15 S16 hf => ?_) _ _ _ hf
      refine j_iload hK dX11_tour_271 3 rfl ?_
      refine j_iconst hK (1 : Int32) dX11_tour_273 ic_1 ?_
      refine j_iload hK dX11_tour_274 4 rfl ?_
      refine j_ishl hK dX11_tour_276 ?_
      refine j_iconst hK (-1 : Int32) dX11_tour_277 ic_m1 ?_
      refine j_ixor hK dX11_tour_278 ?_
      refine j_iand hK dX11_tour_279 ?_
      refine j_pc (pc' := 280) rfl ?_
      refine lt_I hf (fun y17 hf => ?_)
      refine j_istore hK (L' := [(5, .int y17), (0, .ref 122), (1, .int x1), (3, .int x3), (6, .int v15)]) dX11_tour_280 (by decide) rfl ?_
      refine j_iload hK dX11_tour_282 4 rfl ?_
      refine j_istore hK (L' := [(4, .int v15), (5, .int y17), (0, .ref 122), (1, .int x1), (3, .int x3), (6, .int v15)]) dX11_tour_284 (by decide) rfl ?_
      refine j_aload_n hK dX11_tour_286 2 rfl rfl ?_
      refine j_iload hK dX11_tour_287 0 rfl ?_
      refine j_i2l hK dX11_tour_289 ?_
      obtain ⟨r18, S19, h20, hf⟩ := bd_J hf
      refine k_callVv hK (c_X11_enters h20) dX11_tour_290 zclX11 zo_122 ml_X11_340 mi_X11_enters mx_X11_enters in_X11 mc_X11_enters hy_X11_enters ⟨by decide, by decide⟩ rfl (Nat.le_of_ble_eq_true rfl) ?_
      refine j_goto hK 204 dX11_tour_293 (by decide) ?_
      refine j_sub [2, 3, 4, 0, 1] rfl ?_
      exact hk _ _ hf)
def f_X11_tour_159 (x1 : Int32) (x3 : Int32) (x4 : Int32) (x5 : Int32) (x7 : Int32) (s0 : Int32) (k e : Int32 × Int32 → St → Option (Int32 × St)) (S : St) : Option (Int32 × St) := k (s0, (x7 + (1 : Int32))) S
theorem t_X11_tour_159 {K : CT} (hK : KO K cX11_tour RX11 8 4 (some .int)) {r : Int32} {S' : St} (hA : zans K (some (.int r), S')) {x1 : Int32} {x3 : Int32} {x4 : Int32} {x5 : Int32} {x7 : Int32} {s0 : Int32} {k e : Int32 × Int32 → St → Option (Int32 × St)} (hk : ∀ (v : Int32 × Int32) (S : St), k v S = some (r, S') → J K 104 [(0, .ref 122), (1, .int x1), (3, .int x3), (4, .int x4), (5, .int x5), (6, .int v.1), (7, .int v.2)] [] S) (he : ∀ (v : Int32 × Int32) (S : St), e v S = some (r, S') → J K 167 [(0, .ref 122), (1, .int x1), (3, .int x3), (4, .int x4), (5, .int x5), (6, .int v.1)] [] S) {S : St} (hf : f_X11_tour_159 x1 x3 x4 x5 x7 s0 k e S = some (r, S')) : J K 159 [(0, .ref 122), (1, .int x1), (3, .int x3), (4, .int x4), (5, .int x5), (7, .int x7)] [.int s0] S := by
  unfold f_X11_tour_159 at hf
  refine j_istore hK (L' := [(6, .int s0), (0, .ref 122), (1, .int x1), (3, .int x3), (4, .int x4), (5, .int x5), (7, .int x7)]) dX11_tour_159 (by decide) rfl ?_
  refine j_iinc hK (L' := [(7, .int (x7 + (1 : Int32))), (6, .int s0), (0, .ref 122), (1, .int x1), (3, .int x3), (4, .int x4), (5, .int x5)]) dX11_tour_161 6 rfl (congrArg (fun y => x7 + y) ic_1) (by decide) rfl ?_
  refine j_goto hK 104 dX11_tour_164 (by decide) ?_
  refine j_sub [2, 3, 4, 5, 6, 1, 0] rfl ?_
  exact hk _ _ hf
def f_X11_tour_104b (x1 : Int32) (x3 : Int32) (x4 : Int32) (x5 : Int32) (e : Int32 × Int32 → St → Option (Int32 × St)) (k : Int32 × Int32 → St → Option (Int32 × St)) (v : Int32 × Int32) (S : St) : Option (Int32 × St) := (if (8 : Int32) ≤ v.2 then e (v.1, v.2) S else bd (f_X11_has x4 v.2 S) (fun r21 S22 => (if r21 = 0 then f_X11_tour_159 x1 x3 x4 x5 v.2 v.1 k e S22 else bd (f_X11_farOf x5 v.2 S22) (fun r24 S25 => bd (f_X11_place (x4 &&& (((1 : Int32) <<< (v.2 &&& 31)) ^^^ (-1 : Int32))) v.2 S25) (fun r27 S28 => if inb r27 2048 then f_X11_tour_159 x1 x3 x4 x5 v.2 (mnI v.1 (r24 + (gI S28 145 r27.toNatClampNeg))) k e S28 else none)))))
theorem t_X11_tour_104 {K : CT} (hK : KO K cX11_tour RX11 8 4 (some .int)) {r : Int32} {S' : St} (hA : zans K (some (.int r), S')) {x1 : Int32} {x3 : Int32} {x4 : Int32} {x5 : Int32} {e : Int32 × Int32 → St → Option (Int32 × St)} (he : ∀ (v : Int32 × Int32) (S : St), e v S = some (r, S') → J K 167 [(0, .ref 122), (1, .int x1), (3, .int x3), (4, .int x4), (5, .int x5), (6, .int v.1)] [] S) : ∀ (n : Nat) (v : Int32 × Int32) (S : St), lp (f_X11_tour_104b x1 x3 x4 x5 e) n v S = some (r, S') → J K 104 [(0, .ref 122), (1, .int x1), (3, .int x3), (4, .int x4), (5, .int x5), (6, .int v.1), (7, .int v.2)] [] S :=
  lp_J (P := fun (v : Int32 × Int32) (S : St) => J K 104 [(0, .ref 122), (1, .int x1), (3, .int x3), (4, .int x4), (5, .int x5), (6, .int v.1), (7, .int v.2)] [] S) (fun k hk v S hf => by
    unfold f_X11_tour_104b at hf
    refine j_iload hK dX11_tour_104 6 rfl ?_
    refine j_bipush hK (8 : Int32) dX11_tour_106 bi_8 ?_
    refine j_icmp_ge hK 167 dX11_tour_108 (by decide) (fun hc => ?_) (fun hc => ?_)
    · replace hf := if_1 hc hf
      refine j_sub [0, 1, 2, 3, 4, 5] rfl ?_
      exact he _ _ hf
    · replace hf := if_2 hc hf
      refine j_iload hK dX11_tour_111 3 rfl ?_
      refine j_iload hK dX11_tour_113 6 rfl ?_
      obtain ⟨r21, S22, h23, hf⟩ := bd_J hf
      refine k_callSi hK (c_X11_has h23) dX11_tour_115 ml_X11_262 ms_X11_has in_X11 mc_X11_has hy_X11_has ⟨by decide, by decide⟩ rfl (Nat.le_of_ble_eq_true rfl) ?_
      refine j_if_eq hK 157 dX11_tour_118 (by decide) (fun hc => ?_) (fun hc => ?_)
      · replace hf := if_1 hc hf
        refine j_iload hK dX11_tour_157 5 rfl ?_
        refine j_sub [0, 1, 2, 3, 4, 6] rfl ?_
        exact t_X11_tour_159 hK hA hk he hf
      · replace hf := if_2 hc hf
        refine j_iload hK dX11_tour_121 5 rfl ?_
        refine j_aload_n hK dX11_tour_123 0 rfl rfl ?_
        refine j_iload hK dX11_tour_124 4 rfl ?_
        refine j_iload hK dX11_tour_126 6 rfl ?_
        obtain ⟨r24, S25, h26, hf⟩ := bd_J hf
        refine k_callVi hK (c_X11_farOf h26) dX11_tour_128 zclX11 zo_122 ml_X11_291 mi_X11_farOf mx_X11_farOf in_X11 mc_X11_farOf hy_X11_farOf ⟨by decide, by decide⟩ rfl (Nat.le_of_ble_eq_true rfl) ?_
        refine j_aload_n hK dX11_tour_131 0 rfl rfl ?_
        refine j_getR hK fl_X11_89 dX11_tour_132 zo_122 zf_11_38 zr_122_38 ?_
        refine j_pc (pc' := 135) rfl ?_
        refine j_iload hK dX11_tour_135 3 rfl ?_
        refine j_iconst hK (1 : Int32) dX11_tour_137 ic_1 ?_
        refine j_iload hK dX11_tour_138 6 rfl ?_
        refine j_ishl hK dX11_tour_140 ?_
        refine j_iconst hK (-1 : Int32) dX11_tour_141 ic_m1 ?_
        refine j_ixor hK dX11_tour_142 ?_
        refine j_iand hK dX11_tour_143 ?_
        refine j_iload hK dX11_tour_144 6 rfl ?_
        refine j_pc (pc' := 146) rfl ?_
        obtain ⟨r27, S28, h29, hf⟩ := bd_J hf
        refine k_callSi hK (c_X11_place h29) dX11_tour_146 ml_X11_400 ms_X11_place in_X11 mc_X11_place hy_X11_place ⟨by decide, by decide⟩ rfl (Nat.le_of_ble_eq_true rfl) ?_
        obtain ⟨hi30, hf⟩ := gd hf
        refine k_iald hK dX11_tour_149 zb_145 hi30 rfl ?_
        refine j_iadd hK dX11_tour_150 ?_
        refine j_min hK ml_X11_146 dX11_tour_151 (by decide) (Nat.le_of_ble_eq_true rfl) ?_
        refine j_goto hK 159 dX11_tour_154 (by decide) ?_
        refine j_sub [0, 1, 2, 3, 4, 6] rfl ?_
        exact t_X11_tour_159 hK hA hk he hf)
def f_X11_tour_99 (x1 : Int32) (x3 : Int32) (x4 : Int32) (x5 : Int32) (s0 : Int32) (k e : Int32 → St → Option (Int32 × St)) (S : St) : Option (Int32 × St) := lp (f_X11_tour_104b x1 x3 x4 x5 (fun v31 S32 => bd (f_X11_place x4 x5 S32) (fun r33 S34 => if inb r33 2048 then lt (sI S34 145 r33.toNatClampNeg v31.1) (fun S37 => k (x5 + (1 : Int32)) S37) else none))) FU (s0, (0 : Int32)) S
theorem t_X11_tour_99 {K : CT} (hK : KO K cX11_tour RX11 8 4 (some .int)) {r : Int32} {S' : St} (hA : zans K (some (.int r), S')) {x1 : Int32} {x3 : Int32} {x4 : Int32} {x5 : Int32} {s0 : Int32} {k e : Int32 → St → Option (Int32 × St)} (hk : ∀ (v : Int32) (S : St), k v S = some (r, S') → J K 74 [(0, .ref 122), (1, .int x1), (3, .int x3), (4, .int x4), (5, .int v)] [] S) (he : ∀ (v : Int32) (S : St), e v S = some (r, S') → J K 187 [(0, .ref 122), (1, .int x1), (3, .int x3), (4, .int x4)] [] S) {S : St} (hf : f_X11_tour_99 x1 x3 x4 x5 s0 k e S = some (r, S')) : J K 99 [(0, .ref 122), (1, .int x1), (3, .int x3), (4, .int x4), (5, .int x5)] [.int s0] S := by
  unfold f_X11_tour_99 at hf
  refine j_istore hK (L' := [(6, .int s0), (0, .ref 122), (1, .int x1), (3, .int x3), (4, .int x4), (5, .int x5)]) dX11_tour_99 (by decide) rfl ?_
  refine j_iconst hK (0 : Int32) dX11_tour_101 ic_0 ?_
  refine j_istore hK (L' := [(7, .int (0 : Int32)), (6, .int s0), (0, .ref 122), (1, .int x1), (3, .int x3), (4, .int x4), (5, .int x5)]) dX11_tour_102 (by decide) rfl ?_
  refine j_sub [2, 3, 4, 5, 6, 1, 0] rfl ?_
  refine t_X11_tour_104 hK hA  (fun v31 S32 hf => ?_) _ _ _ hf
  refine j_aload_n hK dX11_tour_167 0 rfl rfl ?_
  refine j_getR hK fl_X11_89 dX11_tour_168 zo_122 zf_11_38 zr_122_38 ?_
  refine j_iload hK dX11_tour_171 3 rfl ?_
  refine j_iload hK dX11_tour_173 4 rfl ?_
  obtain ⟨r33, S34, h35, hf⟩ := bd_J hf
  refine k_callSi hK (c_X11_place h35) dX11_tour_175 ml_X11_400 ms_X11_place in_X11 mc_X11_place hy_X11_place ⟨by decide, by decide⟩ rfl (Nat.le_of_ble_eq_true rfl) ?_
  refine j_iload hK dX11_tour_178 5 rfl ?_
  obtain ⟨hi36, hf⟩ := gd hf
  refine k_iast hK dX11_tour_180 zb_145 hi36 rfl ?_
  refine lt_S hf (fun S37 hf => ?_)
  refine j_pc (pc' := 181) rfl ?_
  refine j_iinc hK (L' := [(5, .int (x5 + (1 : Int32))), (0, .ref 122), (1, .int x1), (3, .int x3), (4, .int x4), (6, .int v31.1)]) dX11_tour_181 4 rfl (congrArg (fun y => x5 + y) ic_1) (by decide) rfl ?_
  refine j_goto hK 74 dX11_tour_184 (by decide) ?_
  refine j_sub [1, 2, 3, 4, 0] rfl ?_
  exact hk _ _ hf
def f_X11_tour_74b (x1 : Int32) (x3 : Int32) (x4 : Int32) (e : Int32 → St → Option (Int32 × St)) (k : Int32 → St → Option (Int32 × St)) (v : Int32) (S : St) : Option (Int32 × St) := (if (8 : Int32) ≤ v then e v S else (if x4 = 0 then bd (f_X11_farOf v x1 S) (fun r38 S39 => f_X11_tour_99 x1 x3 x4 v r38 k e S39) else f_X11_tour_99 x1 x3 x4 v (1000000 : Int32) k e S))
theorem t_X11_tour_74 {K : CT} (hK : KO K cX11_tour RX11 8 4 (some .int)) {r : Int32} {S' : St} (hA : zans K (some (.int r), S')) {x1 : Int32} {x3 : Int32} {x4 : Int32} {e : Int32 → St → Option (Int32 × St)} (he : ∀ (v : Int32) (S : St), e v S = some (r, S') → J K 187 [(0, .ref 122), (1, .int x1), (3, .int x3), (4, .int x4)] [] S) : ∀ (n : Nat) (v : Int32) (S : St), lp (f_X11_tour_74b x1 x3 x4 e) n v S = some (r, S') → J K 74 [(0, .ref 122), (1, .int x1), (3, .int x3), (4, .int x4), (5, .int v)] [] S :=
  lp_J (P := fun (v : Int32) (S : St) => J K 74 [(0, .ref 122), (1, .int x1), (3, .int x3), (4, .int x4), (5, .int v)] [] S) (fun k hk v S hf => by
    unfold f_X11_tour_74b at hf
    refine j_iload hK dX11_tour_74 4 rfl ?_
    refine j_bipush hK (8 : Int32) dX11_tour_76 bi_8 ?_
    refine j_icmp_ge hK 187 dX11_tour_78 (by decide) (fun hc => ?_) (fun hc => ?_)
    · replace hf := if_1 hc hf
      refine j_sub [0, 1, 2, 3] rfl ?_
      exact he _ _ hf
    · replace hf := if_2 hc hf
      refine j_iload hK dX11_tour_81 3 rfl ?_
      refine j_if_ne hK 96 dX11_tour_83 (by decide) (fun hc => ?_) (fun hc => ?_)
      · replace hf := if_2 hc hf
        refine j_ldcw hK (v := (1000000 : Int32)) cn_X11_290 dX11_tour_96 ?_
        exact t_X11_tour_99 hK hA hk he hf
      · replace hf := if_1 hc hf
        refine j_aload_n hK dX11_tour_86 0 rfl rfl ?_
        refine j_iload hK dX11_tour_87 4 rfl ?_
        refine j_iload_n hK dX11_tour_89 1 rfl rfl ?_
        obtain ⟨r38, S39, h40, hf⟩ := bd_J hf
        refine k_callVi hK (c_X11_farOf h40) dX11_tour_90 zclX11 zo_122 ml_X11_291 mi_X11_farOf mx_X11_farOf in_X11 mc_X11_farOf hy_X11_farOf ⟨by decide, by decide⟩ rfl (Nat.le_of_ble_eq_true rfl) ?_
        refine j_goto hK 99 dX11_tour_93 (by decide) ?_
        exact t_X11_tour_99 hK hA hk he hf)
def f_X11_tour_63b (x1 : Int32) (x3 : Int32) (e : Int32 → St → Option (Int32 × St)) (k : Int32 → St → Option (Int32 × St)) (v : Int32) (S : St) : Option (Int32 × St) := (if (256 : Int32) ≤ v then e v S else lp (f_X11_tour_74b x1 x3 v (fun v41 S42 => k (v + (1 : Int32)) S42)) FU (0 : Int32) S)
theorem t_X11_tour_63 {K : CT} (hK : KO K cX11_tour RX11 8 4 (some .int)) {r : Int32} {S' : St} (hA : zans K (some (.int r), S')) {x1 : Int32} {x3 : Int32} {e : Int32 → St → Option (Int32 × St)} (he : ∀ (v : Int32) (S : St), e v S = some (r, S') → J K 193 [(0, .ref 122), (1, .int x1), (3, .int x3)] [] S) : ∀ (n : Nat) (v : Int32) (S : St), lp (f_X11_tour_63b x1 x3 e) n v S = some (r, S') → J K 63 [(0, .ref 122), (1, .int x1), (3, .int x3), (4, .int v)] [] S :=
  lp_J (P := fun (v : Int32) (S : St) => J K 63 [(0, .ref 122), (1, .int x1), (3, .int x3), (4, .int v)] [] S) (fun k hk v S hf => by
    unfold f_X11_tour_63b at hf
    refine j_iload hK dX11_tour_63 3 rfl ?_
    refine j_sipush hK (256 : Int32) dX11_tour_65 si_256 ?_
    refine j_icmp_ge hK 193 dX11_tour_68 (by decide) (fun hc => ?_) (fun hc => ?_)
    · replace hf := if_1 hc hf
      refine j_sub [0, 1, 2] rfl ?_
      exact he _ _ hf
    · replace hf := if_2 hc hf
      refine j_iconst hK (0 : Int32) dX11_tour_71 ic_0 ?_
      refine j_istore hK (L' := [(5, .int (0 : Int32)), (0, .ref 122), (1, .int x1), (3, .int x3), (4, .int v)]) dX11_tour_72 (by decide) rfl ?_
      refine j_sub [1, 2, 3, 4, 0] rfl ?_
      refine t_X11_tour_74 hK hA  (fun v41 S42 hf => ?_) _ _ _ hf
      refine j_iinc hK (L' := [(4, .int (v + (1 : Int32))), (0, .ref 122), (1, .int x1), (3, .int x3)]) dX11_tour_187 3 rfl (congrArg (fun y => v + y) ic_1) (by decide) rfl ?_
      refine j_goto hK 63 dX11_tour_190 (by decide) ?_
      refine j_sub [1, 2, 3, 0] rfl ?_
      exact hk _ _ hf)
def f_X11_tour (p1 : Int32) (p2 : Int32) (S : St) : Option (Int32 × St) := lt (sI S 122 0 (0 : Int32)) (fun S43 => bd (f_X11_isCavern p1 S43) (fun r44 S45 => (if r44 = 0 then some ((-1 : Int32), S45) else bd (f_X11_in p2.toInt64 (0 : Int64) (255 : Int64) S45) (fun r47 S48 => (if r47 = 0 then some ((-1 : Int32), S48) else bd (f_X11_laysFar (gI S48 126 36) S48) (fun r50 S51 => lt (p2 &&& (((1 : Int32) <<< (p1 &&& 31)) ^^^ (-1 : Int32))) (fun y53 => bd (f_X11_joinedTo p1 S51) (fun r54 S55 => (if (y53 &&& (r54 ^^^ (-1 : Int32))) = 0 then lp (f_X11_tour_63b p1 y53 (fun v57 S58 => lt (sI S58 122 1 (0 : Int32)) (fun S59 => lp (f_X11_tour_204b p1 y53 (fun v60 S61 => bd (f_X11_place y53 p1 S61) (fun r62 S63 => if inb r62 2048 then some ((gI S63 145 r62.toNatClampNeg), S63) else none))) FU (p1, y53) S59))) FU (0 : Int32) S55 else some ((-2 : Int32), S55))))))))))
theorem c_X11_tour {p1 : Int32} {p2 : Int32} {S : St} {r : Int32} {S' : St} (hf : f_X11_tour p1 p2 S = some (r, S')) : zM yX11_tour cX11_tour 8 4 (some .int) [.ref 122, .int p1, .int p2] S (some (.int r)) S' := by
  refine zM_of (zpl (by decide)) (Nat.le_of_ble_eq_true rfl) rfl (fun K hK hA => ?_)
  unfold f_X11_tour at hf
  refine j_aload_n hK dX11_tour_0 0 rfl rfl ?_
  refine j_iconst hK (0 : Int32) dX11_tour_1 ic_0 ?_
  refine j_putI hK fl_X11_3 dX11_tour_2 zo_122 zf_11_0 ?_
  refine lt_S hf (fun S43 hf => ?_)
  refine j_iload_n hK dX11_tour_5 1 rfl rfl ?_
  obtain ⟨r44, S45, h46, hf⟩ := bd_J hf
  refine k_callSi hK (c_X11_isCavern h46) dX11_tour_6 ml_X11_256 ms_X11_isCavern in_X11 mc_X11_isCavern hy_X11_isCavern ⟨by decide, by decide⟩ rfl (Nat.le_of_ble_eq_true rfl) ?_
  refine j_if_eq hK 24 dX11_tour_9 (by decide) (fun hc => ?_) (fun hc => ?_)
  · replace hf := if_1 hc hf
    refine j_iconst hK (-1 : Int32) dX11_tour_24 ic_m1 ?_
    exact j_iret hK dX11_tour_25 rfl (rt_I hA hf)
  · replace hf := if_2 hc hf
    refine j_iload_n hK dX11_tour_12 2 rfl rfl ?_
    refine j_i2l hK dX11_tour_13 ?_
    refine j_lconst hK (0 : Int64) dX11_tour_14 lc_0 ?_
    refine j_ldc2 hK (v := (255 : Int64)) cl_X11_398 dX11_tour_15 ?_
    obtain ⟨r47, S48, h49, hf⟩ := bd_J hf
    refine k_callSi hK (c_X11_in h49) dX11_tour_18 ml_X11_131 ms_X11_in in_X11 mc_X11_in hy_X11_in ⟨by decide, by decide⟩ rfl (Nat.le_of_ble_eq_true rfl) ?_
    refine j_if_ne hK 26 dX11_tour_21 (by decide) (fun hc => ?_) (fun hc => ?_)
    · replace hf := if_2 hc hf
      refine j_aload_n hK dX11_tour_26 0 rfl rfl ?_
      refine j_aload_n hK dX11_tour_27 0 rfl rfl ?_
      refine j_getR hK fl_X11_31 dX11_tour_28 zo_122 zf_11_7 zr_122_7 ?_
      refine j_bipush hK (36 : Int32) dX11_tour_31 bi_36 ?_
      refine k_iald hK dX11_tour_33 zb_126 (by decide) tn_36 ?_
      obtain ⟨r50, S51, h52, hf⟩ := bd_J hf
      refine k_callVv hK (c_X11_laysFar h52) dX11_tour_34 zclX11 zo_122 ml_X11_302 mi_X11_laysFar mx_X11_laysFar in_X11 mc_X11_laysFar hy_X11_laysFar ⟨by decide, by decide⟩ rfl (Nat.le_of_ble_eq_true rfl) ?_
      refine j_iload_n hK dX11_tour_37 2 rfl rfl ?_
      refine j_pc (pc' := 38) rfl ?_
      refine j_iconst hK (1 : Int32) dX11_tour_38 ic_1 ?_
      refine j_iload_n hK dX11_tour_39 1 rfl rfl ?_
      refine j_ishl hK dX11_tour_40 ?_
      refine j_iconst hK (-1 : Int32) dX11_tour_41 ic_m1 ?_
      refine j_ixor hK dX11_tour_42 ?_
      refine j_iand hK dX11_tour_43 ?_
      refine lt_I hf (fun y53 hf => ?_)
      refine j_istore_n hK (L' := [(3, .int y53), (0, .ref 122), (1, .int p1), (2, .int p2)]) dX11_tour_44 rfl (by decide) rfl ?_
      refine j_iload_n hK dX11_tour_45 0 rfl rfl ?_
      refine j_pc (pc' := 46) rfl ?_
      refine j_aload_n hK dX11_tour_46 1 rfl rfl ?_
      refine j_iload_n hK dX11_tour_47 2 rfl rfl ?_
      obtain ⟨r54, S55, h56, hf⟩ := bd_J hf
      refine k_callVi hK (c_X11_joinedTo h56) dX11_tour_48 zclX11 zo_122 ml_X11_308 mi_X11_joinedTo mx_X11_joinedTo in_X11 mc_X11_joinedTo hy_X11_joinedTo ⟨by decide, by decide⟩ rfl (Nat.le_of_ble_eq_true rfl) ?_
      refine j_iconst hK (-1 : Int32) dX11_tour_51 ic_m1 ?_
      refine j_ixor hK dX11_tour_52 ?_
      refine j_iand hK dX11_tour_53 ?_
      refine j_if_eq hK 60 dX11_tour_54 (by decide) (fun hc => ?_) (fun hc => ?_)
      · replace hf := if_1 hc hf
        refine j_iconst hK (0 : Int32) dX11_tour_60 ic_0 ?_
        refine j_istore hK (L' := [(4, .int (0 : Int32)), (3, .int y53), (0, .ref 122), (1, .int p1), (2, .int p2)]) dX11_tour_61 (by decide) rfl ?_
        refine j_sub [2, 3, 1, 0] rfl ?_
        refine t_X11_tour_63 hK hA  (fun v57 S58 hf => ?_) _ _ _ hf
        refine j_aload_n hK dX11_tour_193 0 rfl rfl ?_
        refine j_iconst hK (0 : Int32) dX11_tour_194 ic_0 ?_
        refine j_putI hK fl_X11_15 dX11_tour_195 zo_122 zf_11_1 ?_
        refine lt_S hf (fun S59 hf => ?_)
        refine j_iload_n hK dX11_tour_198 1 rfl rfl ?_
        refine j_istore hK (L' := [(4, .int p1), (0, .ref 122), (1, .int p1), (3, .int y53)]) dX11_tour_199 (by decide) rfl ?_
        refine j_iload_n hK dX11_tour_201 3 rfl rfl ?_
        refine j_istore hK (L' := [(5, .int y53), (4, .int p1), (0, .ref 122), (1, .int p1), (3, .int y53)]) dX11_tour_202 (by decide) rfl ?_
        refine j_sub [2, 3, 4, 1, 0] rfl ?_
        refine t_X11_tour_204 hK hA  (fun v60 S61 hf => ?_) _ _ _ hf
        refine j_aload_n hK dX11_tour_296 0 rfl rfl ?_
        refine j_getR hK fl_X11_89 dX11_tour_297 zo_122 zf_11_38 zr_122_38 ?_
        refine j_iload_n hK dX11_tour_300 2 rfl rfl ?_
        refine j_iload_n hK dX11_tour_301 1 rfl rfl ?_
        obtain ⟨r62, S63, h64, hf⟩ := bd_J hf
        refine k_callSi hK (c_X11_place h64) dX11_tour_302 ml_X11_400 ms_X11_place in_X11 mc_X11_place hy_X11_place ⟨by decide, by decide⟩ rfl (Nat.le_of_ble_eq_true rfl) ?_
        obtain ⟨hi65, hf⟩ := gd hf
        refine k_iald hK dX11_tour_305 zb_145 hi65 rfl ?_
        exact j_iret hK dX11_tour_306 rfl (rt_I hA hf)
      · replace hf := if_2 hc hf
        refine j_bipush hK (-2 : Int32) dX11_tour_57 bi_m2 ?_
        exact j_iret hK dX11_tour_59 rfl (rt_I hA hf)
    · replace hf := if_1 hc hf
      refine j_iconst hK (-1 : Int32) dX11_tour_24 ic_m1 ?_
      exact j_iret hK dX11_tour_25 rfl (rt_I hA hf)
def f_X11_halves_198 (x2 : Int32) (x3 : Int32) (x4 : Int32) (x5 : Int32) (k e : Int32 × Int32 × Int32 → St → Option (Int32 × St)) (S : St) : Option (Int32 × St) := k (x2, x3, (x5 + (1 : Int32))) S
theorem t_X11_halves_198 {K : CT} (hK : KO K cX11_halves RX11 8 4 (some .int)) {r : Int32} {S' : St} (hA : zans K (some (.int r), S')) {x2 : Int32} {x3 : Int32} {x4 : Int32} {x5 : Int32} {k e : Int32 × Int32 × Int32 → St → Option (Int32 × St)} (hk : ∀ (v : Int32 × Int32 × Int32) (S : St), k v S = some (r, S') → J K 88 [(0, .ref 122), (2, .int v.1), (3, .int v.2.1), (4, .int x4), (5, .int v.2.2)] [] S) (he : ∀ (v : Int32 × Int32 × Int32) (S : St), e v S = some (r, S') → J K 204 [(0, .ref 122), (2, .int v.1), (3, .int v.2.1), (4, .int x4)] [] S) {S : St} (hf : f_X11_halves_198 x2 x3 x4 x5 k e S = some (r, S')) : J K 198 [(0, .ref 122), (2, .int x2), (3, .int x3), (4, .int x4), (5, .int x5)] [] S := by
  unfold f_X11_halves_198 at hf
  refine j_iinc hK (L' := [(5, .int (x5 + (1 : Int32))), (0, .ref 122), (2, .int x2), (3, .int x3), (4, .int x4)]) dX11_halves_198 4 rfl (congrArg (fun y => x5 + y) ic_1) (by decide) rfl ?_
  refine j_goto hK 88 dX11_halves_201 (by decide) ?_
  refine j_sub [1, 2, 3, 4, 0] rfl ?_
  exact hk _ _ hf
def f_X11_halves_196 (x3 : Int32) (x4 : Int32) (x5 : Int32) (s0 : Int32) (s1 : Int32) (k e : Int32 × Int32 × Int32 → St → Option (Int32 × St)) (S : St) : Option (Int32 × St) := lt (s0 ||| s1) (fun y1 => f_X11_halves_198 y1 x3 x4 x5 k e S)
theorem t_X11_halves_196 {K : CT} (hK : KO K cX11_halves RX11 8 4 (some .int)) {r : Int32} {S' : St} (hA : zans K (some (.int r), S')) {x3 : Int32} {x4 : Int32} {x5 : Int32} {s0 : Int32} {s1 : Int32} {k e : Int32 × Int32 × Int32 → St → Option (Int32 × St)} (hk : ∀ (v : Int32 × Int32 × Int32) (S : St), k v S = some (r, S') → J K 88 [(0, .ref 122), (2, .int v.1), (3, .int v.2.1), (4, .int x4), (5, .int v.2.2)] [] S) (he : ∀ (v : Int32 × Int32 × Int32) (S : St), e v S = some (r, S') → J K 204 [(0, .ref 122), (2, .int v.1), (3, .int v.2.1), (4, .int x4)] [] S) {S : St} (hf : f_X11_halves_196 x3 x4 x5 s0 s1 k e S = some (r, S')) : J K 196 [(0, .ref 122), (3, .int x3), (4, .int x4), (5, .int x5)] [.int s1, .int s0] S := by
  unfold f_X11_halves_196 at hf
  refine j_ior hK dX11_halves_196 ?_
  refine lt_I hf (fun y1 hf => ?_)
  refine j_istore_n hK (L' := [(2, .int y1), (0, .ref 122), (3, .int x3), (4, .int x4), (5, .int x5)]) dX11_halves_197 rfl (by decide) rfl ?_
  refine j_sub [1, 0, 2, 3, 4] rfl ?_
  exact t_X11_halves_198 hK hA hk he hf
def f_X11_halves_180 (x3 : Int32) (x4 : Int32) (x5 : Int32) (x6 : Int32) (x7 : Int32) (s0 : Int32) (s1 : Int32) (k e : Int32 × Int32 × Int32 → St → Option (Int32 × St)) (S : St) : Option (Int32 × St) := lt (s0 ||| s1) (fun y2 => (if (x3 &&& x7) = 0 then f_X11_halves_196 x3 x4 x5 y2 (0 : Int32) k e S else f_X11_halves_196 x3 x4 x5 y2 x6 k e S))
theorem t_X11_halves_180 {K : CT} (hK : KO K cX11_halves RX11 8 4 (some .int)) {r : Int32} {S' : St} (hA : zans K (some (.int r), S')) {x3 : Int32} {x4 : Int32} {x5 : Int32} {x6 : Int32} {x7 : Int32} {s0 : Int32} {s1 : Int32} {k e : Int32 × Int32 × Int32 → St → Option (Int32 × St)} (hk : ∀ (v : Int32 × Int32 × Int32) (S : St), k v S = some (r, S') → J K 88 [(0, .ref 122), (2, .int v.1), (3, .int v.2.1), (4, .int x4), (5, .int v.2.2)] [] S) (he : ∀ (v : Int32 × Int32 × Int32) (S : St), e v S = some (r, S') → J K 204 [(0, .ref 122), (2, .int v.1), (3, .int v.2.1), (4, .int x4)] [] S) {S : St} (hf : f_X11_halves_180 x3 x4 x5 x6 x7 s0 s1 k e S = some (r, S')) : J K 180 [(0, .ref 122), (3, .int x3), (4, .int x4), (5, .int x5), (6, .int x6), (7, .int x7)] [.int s1, .int s0] S := by
  unfold f_X11_halves_180 at hf
  refine j_ior hK dX11_halves_180 ?_
  refine lt_I hf (fun y2 hf => ?_)
  refine j_istore_n hK (L' := [(2, .int y2), (0, .ref 122), (3, .int x3), (4, .int x4), (5, .int x5), (6, .int x6), (7, .int x7)]) dX11_halves_181 rfl (by decide) rfl ?_
  refine j_iload_n hK dX11_halves_182 0 rfl rfl ?_
  refine j_iload_n hK dX11_halves_183 2 rfl rfl ?_
  refine j_iload hK dX11_halves_184 6 rfl ?_
  refine j_iand hK dX11_halves_186 ?_
  refine j_if_eq hK 195 dX11_halves_187 (by decide) (fun hc => ?_) (fun hc => ?_)
  · replace hf := if_1 hc hf
    refine j_iconst hK (0 : Int32) dX11_halves_195 ic_0 ?_
    refine j_sub [1, 2, 3, 4] rfl ?_
    exact t_X11_halves_196 hK hA hk he hf
  · replace hf := if_2 hc hf
    refine j_iload hK dX11_halves_190 5 rfl ?_
    refine j_goto hK 196 dX11_halves_192 (by decide) ?_
    refine j_sub [1, 2, 3, 4] rfl ?_
    exact t_X11_halves_196 hK hA hk he hf
def f_X11_halves_164 (x2 : Int32) (x4 : Int32) (x5 : Int32) (x6 : Int32) (x7 : Int32) (s0 : Int32) (s1 : Int32) (k e : Int32 × Int32 × Int32 → St → Option (Int32 × St)) (S : St) : Option (Int32 × St) := lt (s0 ||| s1) (fun y3 => (if (y3 &&& x6) = 0 then f_X11_halves_180 y3 x4 x5 x6 x7 x2 (0 : Int32) k e S else f_X11_halves_180 y3 x4 x5 x6 x7 x2 x7 k e S))
theorem t_X11_halves_164 {K : CT} (hK : KO K cX11_halves RX11 8 4 (some .int)) {r : Int32} {S' : St} (hA : zans K (some (.int r), S')) {x2 : Int32} {x4 : Int32} {x5 : Int32} {x6 : Int32} {x7 : Int32} {s0 : Int32} {s1 : Int32} {k e : Int32 × Int32 × Int32 → St → Option (Int32 × St)} (hk : ∀ (v : Int32 × Int32 × Int32) (S : St), k v S = some (r, S') → J K 88 [(0, .ref 122), (2, .int v.1), (3, .int v.2.1), (4, .int x4), (5, .int v.2.2)] [] S) (he : ∀ (v : Int32 × Int32 × Int32) (S : St), e v S = some (r, S') → J K 204 [(0, .ref 122), (2, .int v.1), (3, .int v.2.1), (4, .int x4)] [] S) {S : St} (hf : f_X11_halves_164 x2 x4 x5 x6 x7 s0 s1 k e S = some (r, S')) : J K 164 [(0, .ref 122), (2, .int x2), (4, .int x4), (5, .int x5), (6, .int x6), (7, .int x7)] [.int s1, .int s0] S := by
  unfold f_X11_halves_164 at hf
  refine j_ior hK dX11_halves_164 ?_
  refine lt_I hf (fun y3 hf => ?_)
  refine j_istore_n hK (L' := [(3, .int y3), (0, .ref 122), (2, .int x2), (4, .int x4), (5, .int x5), (6, .int x6), (7, .int x7)]) dX11_halves_165 rfl (by decide) rfl ?_
  refine j_iload_n hK dX11_halves_166 2 rfl rfl ?_
  refine j_iload_n hK dX11_halves_167 0 rfl rfl ?_
  refine j_iload hK dX11_halves_168 5 rfl ?_
  refine j_iand hK dX11_halves_170 ?_
  refine j_if_eq hK 179 dX11_halves_171 (by decide) (fun hc => ?_) (fun hc => ?_)
  · replace hf := if_1 hc hf
    refine j_iconst hK (0 : Int32) dX11_halves_179 ic_0 ?_
    refine j_sub [1, 0, 3, 4, 5, 6] rfl ?_
    exact t_X11_halves_180 hK hA hk he hf
  · replace hf := if_2 hc hf
    refine j_iload hK dX11_halves_174 6 rfl ?_
    refine j_goto hK 180 dX11_halves_176 (by decide) ?_
    refine j_sub [1, 0, 3, 4, 5, 6] rfl ?_
    exact t_X11_halves_180 hK hA hk he hf
def f_X11_halves_148 (x2 : Int32) (x4 : Int32) (x5 : Int32) (x6 : Int32) (x7 : Int32) (s0 : Int32) (s1 : Int32) (k e : Int32 × Int32 × Int32 → St → Option (Int32 × St)) (S : St) : Option (Int32 × St) := lt (s0 ||| s1) (fun y4 => (if (x2 &&& x7) = 0 then f_X11_halves_164 x2 x4 x5 x6 x7 y4 (0 : Int32) k e S else f_X11_halves_164 x2 x4 x5 x6 x7 y4 x6 k e S))
theorem t_X11_halves_148 {K : CT} (hK : KO K cX11_halves RX11 8 4 (some .int)) {r : Int32} {S' : St} (hA : zans K (some (.int r), S')) {x2 : Int32} {x4 : Int32} {x5 : Int32} {x6 : Int32} {x7 : Int32} {s0 : Int32} {s1 : Int32} {k e : Int32 × Int32 × Int32 → St → Option (Int32 × St)} (hk : ∀ (v : Int32 × Int32 × Int32) (S : St), k v S = some (r, S') → J K 88 [(0, .ref 122), (2, .int v.1), (3, .int v.2.1), (4, .int x4), (5, .int v.2.2)] [] S) (he : ∀ (v : Int32 × Int32 × Int32) (S : St), e v S = some (r, S') → J K 204 [(0, .ref 122), (2, .int v.1), (3, .int v.2.1), (4, .int x4)] [] S) {S : St} (hf : f_X11_halves_148 x2 x4 x5 x6 x7 s0 s1 k e S = some (r, S')) : J K 148 [(0, .ref 122), (2, .int x2), (4, .int x4), (5, .int x5), (6, .int x6), (7, .int x7)] [.int s1, .int s0] S := by
  unfold f_X11_halves_148 at hf
  refine j_ior hK dX11_halves_148 ?_
  refine lt_I hf (fun y4 hf => ?_)
  refine j_istore_n hK (L' := [(3, .int y4), (0, .ref 122), (2, .int x2), (4, .int x4), (5, .int x5), (6, .int x6), (7, .int x7)]) dX11_halves_149 rfl (by decide) rfl ?_
  refine j_iload_n hK dX11_halves_150 0 rfl rfl ?_
  refine j_iload_n hK dX11_halves_151 2 rfl rfl ?_
  refine j_iload hK dX11_halves_152 6 rfl ?_
  refine j_iand hK dX11_halves_154 ?_
  refine j_if_eq hK 163 dX11_halves_155 (by decide) (fun hc => ?_) (fun hc => ?_)
  · replace hf := if_1 hc hf
    refine j_iconst hK (0 : Int32) dX11_halves_163 ic_0 ?_
    refine j_sub [1, 2, 3, 4, 5, 6] rfl ?_
    exact t_X11_halves_164 hK hA hk he hf
  · replace hf := if_2 hc hf
    refine j_iload hK dX11_halves_158 5 rfl ?_
    refine j_goto hK 164 dX11_halves_160 (by decide) ?_
    refine j_sub [1, 2, 3, 4, 5, 6] rfl ?_
    exact t_X11_halves_164 hK hA hk he hf
def f_X11_halves_88b (x4 : Int32) (e : Int32 × Int32 × Int32 → St → Option (Int32 × St)) (k : Int32 × Int32 × Int32 → St → Option (Int32 × St)) (v : Int32 × Int32 × Int32) (S : St) : Option (Int32 × St) := (if (gI S 122 3) ≤ v.2.2 then e (v.1, v.2.1, v.2.2) S else bd (f_X11_has (gI S 126 36) v.2.2 S) (fun r5 S6 => (if r5 = 0 then f_X11_halves_198 v.1 v.2.1 x4 v.2.2 k e S6 else if inb v.2.2 12 then lt ((1 : Int32) <<< ((gI S6 124 v.2.2.toNatClampNeg) &&& 31)) (fun y9 => if inb v.2.2 12 then lt ((1 : Int32) <<< ((gI S6 125 v.2.2.toNatClampNeg) &&& 31)) (fun y11 => (if (v.1 &&& y9) = 0 then f_X11_halves_148 v.1 x4 v.2.2 y9 y11 v.2.1 (0 : Int32) k e S6 else f_X11_halves_148 v.1 x4 v.2.2 y9 y11 v.2.1 y11 k e S6)) else none) else none)))
theorem t_X11_halves_88 {K : CT} (hK : KO K cX11_halves RX11 8 4 (some .int)) {r : Int32} {S' : St} (hA : zans K (some (.int r), S')) {x4 : Int32} {e : Int32 × Int32 × Int32 → St → Option (Int32 × St)} (he : ∀ (v : Int32 × Int32 × Int32) (S : St), e v S = some (r, S') → J K 204 [(0, .ref 122), (2, .int v.1), (3, .int v.2.1), (4, .int x4)] [] S) : ∀ (n : Nat) (v : Int32 × Int32 × Int32) (S : St), lp (f_X11_halves_88b x4 e) n v S = some (r, S') → J K 88 [(0, .ref 122), (2, .int v.1), (3, .int v.2.1), (4, .int x4), (5, .int v.2.2)] [] S :=
  lp_J (P := fun (v : Int32 × Int32 × Int32) (S : St) => J K 88 [(0, .ref 122), (2, .int v.1), (3, .int v.2.1), (4, .int x4), (5, .int v.2.2)] [] S) (fun k hk v S hf => by
    unfold f_X11_halves_88b at hf
    refine j_iload hK dX11_halves_88 4 rfl ?_
    refine j_aload_n hK dX11_halves_90 0 rfl rfl ?_
    refine j_getI hK fl_X11_128 dX11_halves_91 zo_122 zf_11_3 ?_
    refine j_icmp_ge hK 204 dX11_halves_94 (by decide) (fun hc => ?_) (fun hc => ?_)
    · replace hf := if_1 hc hf
      refine j_sub [0, 1, 2, 3] rfl ?_
      exact he _ _ hf
    · replace hf := if_2 hc hf
      refine j_aload_n hK dX11_halves_97 0 rfl rfl ?_
      refine j_getR hK fl_X11_31 dX11_halves_98 zo_122 zf_11_7 zr_122_7 ?_
      refine j_bipush hK (36 : Int32) dX11_halves_101 bi_36 ?_
      refine k_iald hK dX11_halves_103 zb_126 (by decide) tn_36 ?_
      refine j_iload hK dX11_halves_104 4 rfl ?_
      obtain ⟨r5, S6, h7, hf⟩ := bd_J hf
      refine k_callSi hK (c_X11_has h7) dX11_halves_106 ml_X11_262 ms_X11_has in_X11 mc_X11_has hy_X11_has ⟨by decide, by decide⟩ rfl (Nat.le_of_ble_eq_true rfl) ?_
      refine j_if_eq hK 198 dX11_halves_109 (by decide) (fun hc => ?_) (fun hc => ?_)
      · replace hf := if_1 hc hf
        exact t_X11_halves_198 hK hA hk he hf
      · replace hf := if_2 hc hf
        refine j_iconst hK (1 : Int32) dX11_halves_112 ic_1 ?_
        refine j_aload_n hK dX11_halves_113 0 rfl rfl ?_
        refine j_getR hK fl_X11_24 dX11_halves_114 zo_122 zf_11_5 zr_122_5 ?_
        refine j_iload hK dX11_halves_117 4 rfl ?_
        obtain ⟨hi8, hf⟩ := gd hf
        refine k_iald hK dX11_halves_119 zb_124 hi8 rfl ?_
        refine j_ishl hK dX11_halves_120 ?_
        refine lt_I hf (fun y9 hf => ?_)
        refine j_istore hK (L' := [(6, .int y9), (0, .ref 122), (2, .int v.1), (3, .int v.2.1), (4, .int x4), (5, .int v.2.2)]) dX11_halves_121 (by decide) rfl ?_
        refine j_pc (pc' := 123) rfl ?_
        refine j_iconst hK (1 : Int32) dX11_halves_123 ic_1 ?_
        refine j_aload_n hK dX11_halves_124 1 rfl rfl ?_
        refine j_getR hK fl_X11_28 dX11_halves_125 zo_122 zf_11_6 zr_122_6 ?_
        refine j_iload hK dX11_halves_128 5 rfl ?_
        obtain ⟨hi10, hf⟩ := gd hf
        refine k_iald hK dX11_halves_130 zb_125 hi10 rfl ?_
        refine j_ishl hK dX11_halves_131 ?_
        refine lt_I hf (fun y11 hf => ?_)
        refine j_istore hK (L' := [(7, .int y11), (6, .int y9), (0, .ref 122), (2, .int v.1), (3, .int v.2.1), (4, .int x4), (5, .int v.2.2)]) dX11_halves_132 (by decide) rfl ?_
        refine j_iload_n hK dX11_halves_134 4 rfl rfl ?_
        refine j_pc (pc' := 135) rfl ?_
        refine j_iload_n hK dX11_halves_135 3 rfl rfl ?_
        refine j_iload hK dX11_halves_136 1 rfl ?_
        refine j_iand hK dX11_halves_138 ?_
        refine j_if_eq hK 147 dX11_halves_139 (by decide) (fun hc => ?_) (fun hc => ?_)
        · replace hf := if_1 hc hf
          refine j_iconst hK (0 : Int32) dX11_halves_147 ic_0 ?_
          refine j_sub [2, 3, 5, 6, 1, 0] rfl ?_
          exact t_X11_halves_148 hK hA hk he hf
        · replace hf := if_2 hc hf
          refine j_iload hK dX11_halves_142 0 rfl ?_
          refine j_goto hK 148 dX11_halves_144 (by decide) ?_
          refine j_sub [2, 3, 5, 6, 1, 0] rfl ?_
          exact t_X11_halves_148 hK hA hk he hf)
def f_X11_halves_78b (e : Int32 × Int32 × Int32 → St → Option (Int32 × St)) (k : Int32 × Int32 × Int32 → St → Option (Int32 × St)) (v : Int32 × Int32 × Int32) (S : St) : Option (Int32 × St) := (if (8 : Int32) ≤ v.2.2 then e (v.1, v.2.1, v.2.2) S else lp (f_X11_halves_88b v.2.2 (fun v12 S13 => k (v12.1, v12.2.1, (v.2.2 + (1 : Int32))) S13)) FU (v.1, v.2.1, (0 : Int32)) S)
theorem t_X11_halves_78 {K : CT} (hK : KO K cX11_halves RX11 8 4 (some .int)) {r : Int32} {S' : St} (hA : zans K (some (.int r), S')) {e : Int32 × Int32 × Int32 → St → Option (Int32 × St)} (he : ∀ (v : Int32 × Int32 × Int32) (S : St), e v S = some (r, S') → J K 210 [(0, .ref 122), (2, .int v.1), (3, .int v.2.1)] [] S) : ∀ (n : Nat) (v : Int32 × Int32 × Int32) (S : St), lp (f_X11_halves_78b  e) n v S = some (r, S') → J K 78 [(0, .ref 122), (2, .int v.1), (3, .int v.2.1), (4, .int v.2.2)] [] S :=
  lp_J (P := fun (v : Int32 × Int32 × Int32) (S : St) => J K 78 [(0, .ref 122), (2, .int v.1), (3, .int v.2.1), (4, .int v.2.2)] [] S) (fun k hk v S hf => by
    unfold f_X11_halves_78b at hf
    refine j_iload hK dX11_halves_78 3 rfl ?_
    refine j_bipush hK (8 : Int32) dX11_halves_80 bi_8 ?_
    refine j_icmp_ge hK 210 dX11_halves_82 (by decide) (fun hc => ?_) (fun hc => ?_)
    · replace hf := if_1 hc hf
      refine j_sub [0, 1, 2] rfl ?_
      exact he _ _ hf
    · replace hf := if_2 hc hf
      refine j_iconst hK (0 : Int32) dX11_halves_85 ic_0 ?_
      refine j_istore hK (L' := [(5, .int (0 : Int32)), (0, .ref 122), (2, .int v.1), (3, .int v.2.1), (4, .int v.2.2)]) dX11_halves_86 (by decide) rfl ?_
      refine j_sub [1, 2, 3, 4, 0] rfl ?_
      refine t_X11_halves_88 hK hA  (fun v12 S13 hf => ?_) _ _ _ hf
      refine j_iinc hK (L' := [(4, .int (v.2.2 + (1 : Int32))), (0, .ref 122), (2, .int v12.1), (3, .int v12.2.1)]) dX11_halves_204 3 rfl (congrArg (fun y => v.2.2 + y) ic_1) (by decide) rfl ?_
      refine j_goto hK 78 dX11_halves_207 (by decide) ?_
      refine j_sub [1, 2, 3, 0] rfl ?_
      exact hk _ _ hf)
def f_X11_halves_67 (x1 : Int32) (x3 : Int32) (x4 : Int32) (s0 : Int32) (s1 : Int32) (k e : Int32 × Int32 → St → Option (Int32 × St)) (S : St) : Option (Int32 × St) := lt (s0 ||| s1) (fun y14 => k (y14, (x4 + (1 : Int32))) S)
theorem t_X11_halves_67 {K : CT} (hK : KO K cX11_halves RX11 8 4 (some .int)) {r : Int32} {S' : St} (hA : zans K (some (.int r), S')) {x1 : Int32} {x3 : Int32} {x4 : Int32} {s0 : Int32} {s1 : Int32} {k e : Int32 × Int32 → St → Option (Int32 × St)} (hk : ∀ (v : Int32 × Int32) (S : St), k v S = some (r, S') → J K 28 [(0, .ref 122), (1, .int x1), (2, .int v.1), (3, .int x3), (4, .int v.2)] [] S) (he : ∀ (v : Int32 × Int32) (S : St), e v S = some (r, S') → J K 75 [(0, .ref 122), (2, .int v.1), (3, .int x3)] [] S) {S : St} (hf : f_X11_halves_67 x1 x3 x4 s0 s1 k e S = some (r, S')) : J K 67 [(0, .ref 122), (1, .int x1), (3, .int x3), (4, .int x4)] [.int s1, .int s0] S := by
  unfold f_X11_halves_67 at hf
  refine j_ior hK dX11_halves_67 ?_
  refine lt_I hf (fun y14 hf => ?_)
  refine j_istore_n hK (L' := [(2, .int y14), (0, .ref 122), (1, .int x1), (3, .int x3), (4, .int x4)]) dX11_halves_68 rfl (by decide) rfl ?_
  refine j_iinc hK (L' := [(4, .int (x4 + (1 : Int32))), (2, .int y14), (0, .ref 122), (1, .int x1), (3, .int x3)]) dX11_halves_69 4 rfl (congrArg (fun y => x4 + y) ic_1) (by decide) rfl ?_
  refine j_goto hK 28 dX11_halves_72 (by decide) ?_
  refine j_sub [2, 3, 1, 4, 0] rfl ?_
  exact hk _ _ hf
def f_X11_halves_66 (x1 : Int32) (x3 : Int32) (x4 : Int32) (s0 : Int32) (k e : Int32 × Int32 → St → Option (Int32 × St)) (S : St) : Option (Int32 × St) := f_X11_halves_67 x1 x3 x4 s0 (0 : Int32) k e S
theorem t_X11_halves_66 {K : CT} (hK : KO K cX11_halves RX11 8 4 (some .int)) {r : Int32} {S' : St} (hA : zans K (some (.int r), S')) {x1 : Int32} {x3 : Int32} {x4 : Int32} {s0 : Int32} {k e : Int32 × Int32 → St → Option (Int32 × St)} (hk : ∀ (v : Int32 × Int32) (S : St), k v S = some (r, S') → J K 28 [(0, .ref 122), (1, .int x1), (2, .int v.1), (3, .int x3), (4, .int v.2)] [] S) (he : ∀ (v : Int32 × Int32) (S : St), e v S = some (r, S') → J K 75 [(0, .ref 122), (2, .int v.1), (3, .int x3)] [] S) {S : St} (hf : f_X11_halves_66 x1 x3 x4 s0 k e S = some (r, S')) : J K 66 [(0, .ref 122), (1, .int x1), (3, .int x3), (4, .int x4)] [.int s0] S := by
  unfold f_X11_halves_66 at hf
  refine j_iconst hK (0 : Int32) dX11_halves_66 ic_0 ?_
  exact t_X11_halves_67 hK hA hk he hf
def f_X11_halves_28b (x1 : Int32) (x3 : Int32) (e : Int32 × Int32 → St → Option (Int32 × St)) (k : Int32 × Int32 → St → Option (Int32 × St)) (v : Int32 × Int32) (S : St) : Option (Int32 × St) := (if (8 : Int32) ≤ v.2 then e (v.1, v.2) S else bd (f_X11_has x1 v.2 S) (fun r15 S16 => (if r15 = 0 then f_X11_halves_66 x1 x3 v.2 v.1 k e S16 else bd (f_X11_joinedTo v.2 S16) (fun r18 S19 => bd (f_J6_numberOfTrailingZeros_0f7a4 r18 S19) (fun r21 S22 => (if r21 = v.2 then f_X11_halves_67 x1 x3 v.2 v.1 ((1 : Int32) <<< (v.2 &&& 31)) k e S22 else f_X11_halves_66 x1 x3 v.2 v.1 k e S22))))))
theorem t_X11_halves_28 {K : CT} (hK : KO K cX11_halves RX11 8 4 (some .int)) {r : Int32} {S' : St} (hA : zans K (some (.int r), S')) {x1 : Int32} {x3 : Int32} {e : Int32 × Int32 → St → Option (Int32 × St)} (he : ∀ (v : Int32 × Int32) (S : St), e v S = some (r, S') → J K 75 [(0, .ref 122), (2, .int v.1), (3, .int x3)] [] S) : ∀ (n : Nat) (v : Int32 × Int32) (S : St), lp (f_X11_halves_28b x1 x3 e) n v S = some (r, S') → J K 28 [(0, .ref 122), (1, .int x1), (2, .int v.1), (3, .int x3), (4, .int v.2)] [] S :=
  lp_J (P := fun (v : Int32 × Int32) (S : St) => J K 28 [(0, .ref 122), (1, .int x1), (2, .int v.1), (3, .int x3), (4, .int v.2)] [] S) (fun k hk v S hf => by
    unfold f_X11_halves_28b at hf
    refine j_iload hK dX11_halves_28 4 rfl ?_
    refine j_bipush hK (8 : Int32) dX11_halves_30 bi_8 ?_
    refine j_icmp_ge hK 75 dX11_halves_32 (by decide) (fun hc => ?_) (fun hc => ?_)
    · replace hf := if_1 hc hf
      refine j_sub [0, 2, 3] rfl ?_
      exact he _ _ hf
    · replace hf := if_2 hc hf
      refine j_iload_n hK dX11_halves_35 2 rfl rfl ?_
      refine j_iload_n hK dX11_halves_36 1 rfl rfl ?_
      refine j_iload hK dX11_halves_37 4 rfl ?_
      obtain ⟨r15, S16, h17, hf⟩ := bd_J hf
      refine k_callSi hK (c_X11_has h17) dX11_halves_39 ml_X11_262 ms_X11_has in_X11 mc_X11_has hy_X11_has ⟨by decide, by decide⟩ rfl (Nat.le_of_ble_eq_true rfl) ?_
      refine j_if_eq hK 66 dX11_halves_42 (by decide) (fun hc => ?_) (fun hc => ?_)
      · replace hf := if_1 hc hf
        refine j_sub [0, 1, 3, 4] rfl ?_
        exact t_X11_halves_66 hK hA hk he hf
      · replace hf := if_2 hc hf
        refine j_aload_n hK dX11_halves_45 0 rfl rfl ?_
        refine j_iload hK dX11_halves_46 4 rfl ?_
        obtain ⟨r18, S19, h20, hf⟩ := bd_J hf
        refine k_callVi hK (c_X11_joinedTo h20) dX11_halves_48 zclX11 zo_122 ml_X11_308 mi_X11_joinedTo mx_X11_joinedTo in_X11 mc_X11_joinedTo hy_X11_joinedTo ⟨by decide, by decide⟩ rfl (Nat.le_of_ble_eq_true rfl) ?_
        obtain ⟨r21, S22, h23, hf⟩ := bd_J hf
        refine k_callSi hK (c_J6_numberOfTrailingZeros_0f7a4 h23) dX11_halves_51 ml_X11_395 ms_J6_numberOfTrailingZeros_0f7a4 in_J6 mc_J6_numberOfTrailingZeros_0f7a4 hy_J6_numberOfTrailingZeros_0f7a4 ⟨by decide, by decide⟩ rfl (Nat.le_of_ble_eq_true rfl) ?_
        refine j_iload hK dX11_halves_54 4 rfl ?_
        refine j_icmp_ne hK 66 dX11_halves_56 (by decide) (fun hc => ?_) (fun hc => ?_)
        · replace hf := if_2 hc hf
          refine j_sub [0, 1, 3, 4] rfl ?_
          exact t_X11_halves_66 hK hA hk he hf
        · replace hf := if_1 hc hf
          refine j_iconst hK (1 : Int32) dX11_halves_59 ic_1 ?_
          refine j_iload hK dX11_halves_60 4 rfl ?_
          refine j_ishl hK dX11_halves_62 ?_
          refine j_goto hK 67 dX11_halves_63 (by decide) ?_
          refine j_sub [0, 1, 3, 4] rfl ?_
          exact t_X11_halves_67 hK hA hk he hf)
def f_X11_halves (S : St) : Option (Int32 × St) := lt (sI S 122 0 (0 : Int32)) (fun S24 => bd (f_X11_laysFar (gI S24 126 36) S24) (fun r25 S26 => bd (f_X11_withPassages S26) (fun r28 S29 => lp (f_X11_halves_28b r28 (0 : Int32) (fun v31 S32 => lp (f_X11_halves_78b  (fun v33 S34 => lt (sI S34 122 1 (0 : Int32)) (fun S35 => (if (v33.1 &&& v33.2.1) = 0 then bd (f_X11_enters v33.1.toInt64 S35) (fun r36 S37 => some ((1 : Int32), S37)) else some ((0 : Int32), S35))))) FU (v31.1, (0 : Int32), (0 : Int32)) S32)) FU ((0 : Int32), (0 : Int32)) S29)))
theorem c_X11_halves {S : St} {r : Int32} {S' : St} (hf : f_X11_halves S = some (r, S')) : zM yX11_halves cX11_halves 8 4 (some .int) [.ref 122] S (some (.int r)) S' := by
  refine zM_of (zpl (by decide)) (Nat.le_of_ble_eq_true rfl) rfl (fun K hK hA => ?_)
  unfold f_X11_halves at hf
  refine j_aload_n hK dX11_halves_0 0 rfl rfl ?_
  refine j_iconst hK (0 : Int32) dX11_halves_1 ic_0 ?_
  refine j_putI hK fl_X11_3 dX11_halves_2 zo_122 zf_11_0 ?_
  refine lt_S hf (fun S24 hf => ?_)
  refine j_aload_n hK dX11_halves_5 0 rfl rfl ?_
  refine j_aload_n hK dX11_halves_6 0 rfl rfl ?_
  refine j_getR hK fl_X11_31 dX11_halves_7 zo_122 zf_11_7 zr_122_7 ?_
  refine j_bipush hK (36 : Int32) dX11_halves_10 bi_36 ?_
  refine k_iald hK dX11_halves_12 zb_126 (by decide) tn_36 ?_
  refine j_pc (pc' := 13) rfl ?_
  obtain ⟨r25, S26, h27, hf⟩ := bd_J hf
  refine k_callVv hK (c_X11_laysFar h27) dX11_halves_13 zclX11 zo_122 ml_X11_302 mi_X11_laysFar mx_X11_laysFar in_X11 mc_X11_laysFar hy_X11_laysFar ⟨by decide, by decide⟩ rfl (Nat.le_of_ble_eq_true rfl) ?_
  refine j_aload_n hK dX11_halves_16 0 rfl rfl ?_
  obtain ⟨r28, S29, h30, hf⟩ := bd_J hf
  refine k_callVi hK (c_X11_withPassages h30) dX11_halves_17 zclX11 zo_122 ml_X11_392 mi_X11_withPassages mx_X11_withPassages in_X11 mc_X11_withPassages hy_X11_withPassages ⟨by decide, by decide⟩ rfl (Nat.le_of_ble_eq_true rfl) ?_
  refine j_istore_n hK (L' := [(1, .int r28), (0, .ref 122)]) dX11_halves_20 rfl (by decide) rfl ?_
  refine j_iconst hK (0 : Int32) dX11_halves_21 ic_0 ?_
  refine j_istore_n hK (L' := [(2, .int (0 : Int32)), (1, .int r28), (0, .ref 122)]) dX11_halves_22 rfl (by decide) rfl ?_
  refine j_iconst hK (0 : Int32) dX11_halves_23 ic_0 ?_
  refine j_istore_n hK (L' := [(3, .int (0 : Int32)), (2, .int (0 : Int32)), (1, .int r28), (0, .ref 122)]) dX11_halves_24 rfl (by decide) rfl ?_
  refine j_pc (pc' := 25) rfl ?_
  refine j_iconst hK (0 : Int32) dX11_halves_25 ic_0 ?_
  refine j_istore hK (L' := [(4, .int (0 : Int32)), (3, .int (0 : Int32)), (2, .int (0 : Int32)), (1, .int r28), (0, .ref 122)]) dX11_halves_26 (by decide) rfl ?_
  refine j_sub [4, 3, 2, 1, 0] rfl ?_
  refine t_X11_halves_28 hK hA  (fun v31 S32 hf => ?_) _ _ _ hf
  refine j_iconst hK (0 : Int32) dX11_halves_75 ic_0 ?_
  refine j_istore hK (L' := [(4, .int (0 : Int32)), (0, .ref 122), (2, .int v31.1), (3, .int (0 : Int32))]) dX11_halves_76 (by decide) rfl ?_
  refine j_sub [1, 2, 3, 0] rfl ?_
  refine t_X11_halves_78 hK hA  (fun v33 S34 hf => ?_) _ _ _ hf
  refine j_aload_n hK dX11_halves_210 0 rfl rfl ?_
  refine j_iconst hK (0 : Int32) dX11_halves_211 ic_0 ?_
  refine j_putI hK fl_X11_15 dX11_halves_212 zo_122 zf_11_1 ?_
  refine lt_S hf (fun S35 hf => ?_)
  refine j_iload_n hK dX11_halves_215 1 rfl rfl ?_
  refine j_iload_n hK dX11_halves_216 2 rfl rfl ?_
  refine j_iand hK dX11_halves_217 ?_
  refine j_if_eq hK 223 dX11_halves_218 (by decide) (fun hc => ?_) (fun hc => ?_)
  · replace hf := if_1 hc hf
    refine j_aload_n hK dX11_halves_223 0 rfl rfl ?_
    refine j_iload_n hK dX11_halves_224 1 rfl rfl ?_
    refine j_i2l hK dX11_halves_225 ?_
    obtain ⟨r36, S37, h38, hf⟩ := bd_J hf
    refine k_callVv hK (c_X11_enters h38) dX11_halves_226 zclX11 zo_122 ml_X11_340 mi_X11_enters mx_X11_enters in_X11 mc_X11_enters hy_X11_enters ⟨by decide, by decide⟩ rfl (Nat.le_of_ble_eq_true rfl) ?_
    refine j_iconst hK (1 : Int32) dX11_halves_229 ic_1 ?_
    exact j_iret hK dX11_halves_230 rfl (rt_I hA hf)
  · replace hf := if_2 hc hf
    refine j_iconst hK (0 : Int32) dX11_halves_221 ic_0 ?_
    exact j_iret hK dX11_halves_222 rfl (rt_I hA hf)
def f_X11_isFewer_15 (S : St) : Option (Int32 × St) := some ((1 : Int32), S)
theorem t_X11_isFewer_15 {K : CT} (hK : KO K cX11_isFewer RX11 2 2 (some .boolean)) {r : Int32} {S' : St} (hA : zans K (some (.int r), S')) {S : St} (hf : f_X11_isFewer_15  S = some (r, S')) : J K 15 [] [] S := by
  unfold f_X11_isFewer_15 at hf
  refine j_iconst hK (1 : Int32) dX11_isFewer_15 ic_1 ?_
  refine j_goto hK 20 dX11_isFewer_16 (by decide) ?_
  exact j_zret hK dX11_isFewer_20 rfl rfl (rt_I hA hf)
def f_X11_isFewer (p0 : Int32) (p1 : Int32) (S : St) : Option (Int32 × St) := (if p1 < 0 then f_X11_isFewer_15  S else bd (f_J6_bitCount_0f7a4 p0 S) (fun r1 S2 => bd (f_J6_bitCount_0f7a4 p1 S2) (fun r4 S5 => (if r4 ≤ r1 then some ((0 : Int32), S5) else f_X11_isFewer_15  S5))))
theorem c_X11_isFewer {p0 : Int32} {p1 : Int32} {S : St} {r : Int32} {S' : St} (hf : f_X11_isFewer p0 p1 S = some (r, S')) : zM yX11_isFewer cX11_isFewer 2 2 (some .boolean) [.int p0, .int p1] S (some (.int r)) S' := by
  refine zM_of (zpl (by decide)) (Nat.le_of_ble_eq_true rfl) rfl (fun K hK hA => ?_)
  unfold f_X11_isFewer at hf
  refine j_iload_n hK dX11_isFewer_0 1 rfl rfl ?_
  refine j_if_lt hK 15 dX11_isFewer_1 (by decide) (fun hc => ?_) (fun hc => ?_)
  · replace hf := if_1 hc hf
    refine j_sub [] rfl ?_
    exact t_X11_isFewer_15 hK hA  hf
  · replace hf := if_2 hc hf
    refine j_iload_n hK dX11_isFewer_4 0 rfl rfl ?_
    obtain ⟨r1, S2, h3, hf⟩ := bd_J hf
    refine k_callSi hK (c_J6_bitCount_0f7a4 h3) dX11_isFewer_5 ml_X11_355 ms_J6_bitCount_0f7a4 in_J6 mc_J6_bitCount_0f7a4 hy_J6_bitCount_0f7a4 ⟨by decide, by decide⟩ rfl (Nat.le_of_ble_eq_true rfl) ?_
    refine j_iload_n hK dX11_isFewer_8 1 rfl rfl ?_
    obtain ⟨r4, S5, h6, hf⟩ := bd_J hf
    refine k_callSi hK (c_J6_bitCount_0f7a4 h6) dX11_isFewer_9 ml_X11_355 ms_J6_bitCount_0f7a4 in_J6 mc_J6_bitCount_0f7a4 hy_J6_bitCount_0f7a4 ⟨by decide, by decide⟩ rfl (Nat.le_of_ble_eq_true rfl) ?_
    refine j_icmp_ge hK 19 dX11_isFewer_12 (by decide) (fun hc => ?_) (fun hc => ?_)
    · replace hf := if_1 hc hf
      refine j_iconst hK (0 : Int32) dX11_isFewer_19 ic_0 ?_
      exact j_zret hK dX11_isFewer_20 rfl rfl (rt_I hA hf)
    · replace hf := if_2 hc hf
      refine j_sub [] rfl ?_
      exact t_X11_isFewer_15 hK hA  hf
def f_X11_guides_102 (x2 : Int32) (s0 : Int32) (k e : Int32 × Int32 → St → Option (Int32 × St)) (S : St) : Option (Int32 × St) := k (s0, (x2 + (1 : Int32))) S
theorem t_X11_guides_102 {K : CT} (hK : KO K cX11_guides RX11 5 3 (some .int)) {r : Int32} {S' : St} (hA : zans K (some (.int r), S')) {x2 : Int32} {s0 : Int32} {k e : Int32 × Int32 → St → Option (Int32 × St)} (hk : ∀ (v : Int32 × Int32) (S : St), k v S = some (r, S') → J K 9 [(0, .ref 122), (1, .int v.1), (2, .int v.2)] [] S) (he : ∀ (v : Int32 × Int32) (S : St), e v S = some (r, S') → J K 109 [(0, .ref 122), (1, .int v.1)] [] S) {S : St} (hf : f_X11_guides_102 x2 s0 k e S = some (r, S')) : J K 102 [(0, .ref 122), (2, .int x2)] [.int s0] S := by
  unfold f_X11_guides_102 at hf
  refine j_istore_n hK (L' := [(1, .int s0), (0, .ref 122), (2, .int x2)]) dX11_guides_102 rfl (by decide) rfl ?_
  refine j_iinc hK (L' := [(2, .int (x2 + (1 : Int32))), (1, .int s0), (0, .ref 122)]) dX11_guides_103 2 rfl (congrArg (fun y => x2 + y) ic_1) (by decide) rfl ?_
  refine j_goto hK 9 dX11_guides_106 (by decide) ?_
  refine j_sub [2, 1, 0] rfl ?_
  exact hk _ _ hf
def f_X11_guides_86 (x1 : Int32) (x2 : Int32) (x4 : Int32) (s0 : Int32) (k e : Int32 × Int32 → St → Option (Int32 × St)) (S : St) : Option (Int32 × St) := k (s0, (x4 + (1 : Int32))) S
theorem t_X11_guides_86 {K : CT} (hK : KO K cX11_guides RX11 5 3 (some .int)) {r : Int32} {S' : St} (hA : zans K (some (.int r), S')) {x1 : Int32} {x2 : Int32} {x4 : Int32} {s0 : Int32} {k e : Int32 × Int32 → St → Option (Int32 × St)} (hk : ∀ (v : Int32 × Int32) (S : St), k v S = some (r, S') → J K 25 [(0, .ref 122), (1, .int x1), (2, .int x2), (3, .int v.1), (4, .int v.2)] [] S) (he : ∀ (v : Int32 × Int32) (S : St), e v S = some (r, S') → J K 93 [(0, .ref 122), (1, .int x1), (2, .int x2), (3, .int v.1)] [] S) {S : St} (hf : f_X11_guides_86 x1 x2 x4 s0 k e S = some (r, S')) : J K 86 [(0, .ref 122), (1, .int x1), (2, .int x2), (4, .int x4)] [.int s0] S := by
  unfold f_X11_guides_86 at hf
  refine j_istore_n hK (L' := [(3, .int s0), (0, .ref 122), (1, .int x1), (2, .int x2), (4, .int x4)]) dX11_guides_86 rfl (by decide) rfl ?_
  refine j_iinc hK (L' := [(4, .int (x4 + (1 : Int32))), (3, .int s0), (0, .ref 122), (1, .int x1), (2, .int x2)]) dX11_guides_87 4 rfl (congrArg (fun y => x4 + y) ic_1) (by decide) rfl ?_
  refine j_goto hK 25 dX11_guides_90 (by decide) ?_
  refine j_sub [2, 3, 4, 1, 0] rfl ?_
  exact hk _ _ hf
def f_X11_guides_85 (x1 : Int32) (x2 : Int32) (x4 : Int32) (k e : Int32 × Int32 → St → Option (Int32 × St)) (S : St) : Option (Int32 × St) := f_X11_guides_86 x1 x2 x4 (0 : Int32) k e S
theorem t_X11_guides_85 {K : CT} (hK : KO K cX11_guides RX11 5 3 (some .int)) {r : Int32} {S' : St} (hA : zans K (some (.int r), S')) {x1 : Int32} {x2 : Int32} {x4 : Int32} {k e : Int32 × Int32 → St → Option (Int32 × St)} (hk : ∀ (v : Int32 × Int32) (S : St), k v S = some (r, S') → J K 25 [(0, .ref 122), (1, .int x1), (2, .int x2), (3, .int v.1), (4, .int v.2)] [] S) (he : ∀ (v : Int32 × Int32) (S : St), e v S = some (r, S') → J K 93 [(0, .ref 122), (1, .int x1), (2, .int x2), (3, .int v.1)] [] S) {S : St} (hf : f_X11_guides_85 x1 x2 x4 k e S = some (r, S')) : J K 85 [(0, .ref 122), (1, .int x1), (2, .int x2), (4, .int x4)] [] S := by
  unfold f_X11_guides_85 at hf
  refine j_iconst hK (0 : Int32) dX11_guides_85 ic_0 ?_
  exact t_X11_guides_86 hK hA hk he hf
def f_X11_guides_81 (x1 : Int32) (x2 : Int32) (x4 : Int32) (k e : Int32 × Int32 → St → Option (Int32 × St)) (S : St) : Option (Int32 × St) := f_X11_guides_86 x1 x2 x4 (1 : Int32) k e S
theorem t_X11_guides_81 {K : CT} (hK : KO K cX11_guides RX11 5 3 (some .int)) {r : Int32} {S' : St} (hA : zans K (some (.int r), S')) {x1 : Int32} {x2 : Int32} {x4 : Int32} {k e : Int32 × Int32 → St → Option (Int32 × St)} (hk : ∀ (v : Int32 × Int32) (S : St), k v S = some (r, S') → J K 25 [(0, .ref 122), (1, .int x1), (2, .int x2), (3, .int v.1), (4, .int v.2)] [] S) (he : ∀ (v : Int32 × Int32) (S : St), e v S = some (r, S') → J K 93 [(0, .ref 122), (1, .int x1), (2, .int x2), (3, .int v.1)] [] S) {S : St} (hf : f_X11_guides_81 x1 x2 x4 k e S = some (r, S')) : J K 81 [(0, .ref 122), (1, .int x1), (2, .int x2), (4, .int x4)] [] S := by
  unfold f_X11_guides_81 at hf
  refine j_iconst hK (1 : Int32) dX11_guides_81 ic_1 ?_
  refine j_goto hK 86 dX11_guides_82 (by decide) ?_
  exact t_X11_guides_86 hK hA hk he hf
def f_X11_guides_25b (x1 : Int32) (x2 : Int32) (e : Int32 × Int32 → St → Option (Int32 × St)) (k : Int32 × Int32 → St → Option (Int32 × St)) (v : Int32 × Int32) (S : St) : Option (Int32 × St) := (if (gI S 122 3) ≤ v.2 then e (v.1, v.2) S else (if v.1 = 0 then f_X11_guides_85 x1 x2 v.2 k e S else bd (f_X11_has (gI S 126 36) v.2 S) (fun r1 S2 => (if r1 = 0 then f_X11_guides_81 x1 x2 v.2 k e S2 else if inb v.2 12 then bd (f_X11_has x2 (gI S2 124 v.2.toNatClampNeg) S2) (fun r5 S6 => (if r5 = 0 then if inb v.2 12 then bd (f_X11_has x2 (gI S6 125 v.2.toNatClampNeg) S6) (fun r9 S10 => (if r9 = 0 then f_X11_guides_85 x1 x2 v.2 k e S10 else f_X11_guides_81 x1 x2 v.2 k e S10)) else none else f_X11_guides_81 x1 x2 v.2 k e S6)) else none))))
theorem t_X11_guides_25 {K : CT} (hK : KO K cX11_guides RX11 5 3 (some .int)) {r : Int32} {S' : St} (hA : zans K (some (.int r), S')) {x1 : Int32} {x2 : Int32} {e : Int32 × Int32 → St → Option (Int32 × St)} (he : ∀ (v : Int32 × Int32) (S : St), e v S = some (r, S') → J K 93 [(0, .ref 122), (1, .int x1), (2, .int x2), (3, .int v.1)] [] S) : ∀ (n : Nat) (v : Int32 × Int32) (S : St), lp (f_X11_guides_25b x1 x2 e) n v S = some (r, S') → J K 25 [(0, .ref 122), (1, .int x1), (2, .int x2), (3, .int v.1), (4, .int v.2)] [] S :=
  lp_J (P := fun (v : Int32 × Int32) (S : St) => J K 25 [(0, .ref 122), (1, .int x1), (2, .int x2), (3, .int v.1), (4, .int v.2)] [] S) (fun k hk v S hf => by
    unfold f_X11_guides_25b at hf
    refine j_iload hK dX11_guides_25 4 rfl ?_
    refine j_aload_n hK dX11_guides_27 0 rfl rfl ?_
    refine j_getI hK fl_X11_128 dX11_guides_28 zo_122 zf_11_3 ?_
    refine j_icmp_ge hK 93 dX11_guides_31 (by decide) (fun hc => ?_) (fun hc => ?_)
    · replace hf := if_1 hc hf
      refine j_sub [0, 1, 2, 3] rfl ?_
      exact he _ _ hf
    · replace hf := if_2 hc hf
      refine j_iload_n hK dX11_guides_34 3 rfl rfl ?_
      refine j_if_eq hK 85 dX11_guides_35 (by decide) (fun hc => ?_) (fun hc => ?_)
      · replace hf := if_1 hc hf
        refine j_sub [0, 1, 2, 4] rfl ?_
        exact t_X11_guides_85 hK hA hk he hf
      · replace hf := if_2 hc hf
        refine j_aload_n hK dX11_guides_38 0 rfl rfl ?_
        refine j_getR hK fl_X11_31 dX11_guides_39 zo_122 zf_11_7 zr_122_7 ?_
        refine j_bipush hK (36 : Int32) dX11_guides_42 bi_36 ?_
        refine k_iald hK dX11_guides_44 zb_126 (by decide) tn_36 ?_
        refine j_iload hK dX11_guides_45 4 rfl ?_
        obtain ⟨r1, S2, h3, hf⟩ := bd_J hf
        refine k_callSi hK (c_X11_has h3) dX11_guides_47 ml_X11_262 ms_X11_has in_X11 mc_X11_has hy_X11_has ⟨by decide, by decide⟩ rfl (Nat.le_of_ble_eq_true rfl) ?_
        refine j_if_eq hK 81 dX11_guides_50 (by decide) (fun hc => ?_) (fun hc => ?_)
        · replace hf := if_1 hc hf
          refine j_sub [0, 1, 2, 4] rfl ?_
          exact t_X11_guides_81 hK hA hk he hf
        · replace hf := if_2 hc hf
          refine j_iload_n hK dX11_guides_53 2 rfl rfl ?_
          refine j_aload_n hK dX11_guides_54 0 rfl rfl ?_
          refine j_getR hK fl_X11_24 dX11_guides_55 zo_122 zf_11_5 zr_122_5 ?_
          refine j_iload hK dX11_guides_58 4 rfl ?_
          obtain ⟨hi4, hf⟩ := gd hf
          refine k_iald hK dX11_guides_60 zb_124 hi4 rfl ?_
          obtain ⟨r5, S6, h7, hf⟩ := bd_J hf
          refine k_callSi hK (c_X11_has h7) dX11_guides_61 ml_X11_262 ms_X11_has in_X11 mc_X11_has hy_X11_has ⟨by decide, by decide⟩ rfl (Nat.le_of_ble_eq_true rfl) ?_
          refine j_if_ne hK 81 dX11_guides_64 (by decide) (fun hc => ?_) (fun hc => ?_)
          · replace hf := if_2 hc hf
            refine j_sub [0, 1, 2, 4] rfl ?_
            exact t_X11_guides_81 hK hA hk he hf
          · replace hf := if_1 hc hf
            refine j_iload_n hK dX11_guides_67 2 rfl rfl ?_
            refine j_aload_n hK dX11_guides_68 0 rfl rfl ?_
            refine j_getR hK fl_X11_28 dX11_guides_69 zo_122 zf_11_6 zr_122_6 ?_
            refine j_iload hK dX11_guides_72 4 rfl ?_
            obtain ⟨hi8, hf⟩ := gd hf
            refine k_iald hK dX11_guides_74 zb_125 hi8 rfl ?_
            obtain ⟨r9, S10, h11, hf⟩ := bd_J hf
            refine k_callSi hK (c_X11_has h11) dX11_guides_75 ml_X11_262 ms_X11_has in_X11 mc_X11_has hy_X11_has ⟨by decide, by decide⟩ rfl (Nat.le_of_ble_eq_true rfl) ?_
            refine j_if_eq hK 85 dX11_guides_78 (by decide) (fun hc => ?_) (fun hc => ?_)
            · replace hf := if_1 hc hf
              refine j_sub [0, 1, 2, 4] rfl ?_
              exact t_X11_guides_85 hK hA hk he hf
            · replace hf := if_2 hc hf
              refine j_sub [0, 1, 2, 4] rfl ?_
              exact t_X11_guides_81 hK hA hk he hf)
def f_X11_guides_9b (e : Int32 × Int32 → St → Option (Int32 × St)) (k : Int32 × Int32 → St → Option (Int32 × St)) (v : Int32 × Int32) (S : St) : Option (Int32 × St) := (if (256 : Int32) ≤ v.2 then e (v.1, v.2) S else bd (f_X11_isFewer v.2 v.1 S) (fun r12 S13 => lp (f_X11_guides_25b v.1 v.2 (fun v15 S16 => (if v15.1 = 0 then f_X11_guides_102 v.2 v.1 k e S16 else f_X11_guides_102 v.2 v.2 k e S16))) FU (r12, (0 : Int32)) S13))
theorem t_X11_guides_9 {K : CT} (hK : KO K cX11_guides RX11 5 3 (some .int)) {r : Int32} {S' : St} (hA : zans K (some (.int r), S')) {e : Int32 × Int32 → St → Option (Int32 × St)} (he : ∀ (v : Int32 × Int32) (S : St), e v S = some (r, S') → J K 109 [(0, .ref 122), (1, .int v.1)] [] S) : ∀ (n : Nat) (v : Int32 × Int32) (S : St), lp (f_X11_guides_9b  e) n v S = some (r, S') → J K 9 [(0, .ref 122), (1, .int v.1), (2, .int v.2)] [] S :=
  lp_J (P := fun (v : Int32 × Int32) (S : St) => J K 9 [(0, .ref 122), (1, .int v.1), (2, .int v.2)] [] S) (fun k hk v S hf => by
    unfold f_X11_guides_9b at hf
    refine j_iload_n hK dX11_guides_9 2 rfl rfl ?_
    refine j_sipush hK (256 : Int32) dX11_guides_10 si_256 ?_
    refine j_icmp_ge hK 109 dX11_guides_13 (by decide) (fun hc => ?_) (fun hc => ?_)
    · replace hf := if_1 hc hf
      refine j_sub [0, 1] rfl ?_
      exact he _ _ hf
    · replace hf := if_2 hc hf
      refine j_iload_n hK dX11_guides_16 2 rfl rfl ?_
      refine j_iload_n hK dX11_guides_17 1 rfl rfl ?_
      obtain ⟨r12, S13, h14, hf⟩ := bd_J hf
      refine k_callSi hK (c_X11_isFewer h14) dX11_guides_18 ml_X11_403 ms_X11_isFewer in_X11 mc_X11_isFewer hy_X11_isFewer ⟨by decide, by decide⟩ rfl (Nat.le_of_ble_eq_true rfl) ?_
      refine j_istore_n hK (L' := [(3, .int r12), (0, .ref 122), (1, .int v.1), (2, .int v.2)]) dX11_guides_21 rfl (by decide) rfl ?_
      refine j_iconst hK (0 : Int32) dX11_guides_22 ic_0 ?_
      refine j_istore hK (L' := [(4, .int (0 : Int32)), (3, .int r12), (0, .ref 122), (1, .int v.1), (2, .int v.2)]) dX11_guides_23 (by decide) rfl ?_
      refine j_sub [2, 3, 4, 1, 0] rfl ?_
      refine t_X11_guides_25 hK hA  (fun v15 S16 hf => ?_) _ _ _ hf
      refine j_iload_n hK dX11_guides_93 3 rfl rfl ?_
      refine j_if_eq hK 101 dX11_guides_94 (by decide) (fun hc => ?_) (fun hc => ?_)
      · replace hf := if_1 hc hf
        refine j_iload_n hK dX11_guides_101 1 rfl rfl ?_
        refine j_sub [0, 2] rfl ?_
        exact t_X11_guides_102 hK hA hk he hf
      · replace hf := if_2 hc hf
        refine j_iload_n hK dX11_guides_97 2 rfl rfl ?_
        refine j_goto hK 102 dX11_guides_98 (by decide) ?_
        refine j_sub [0, 2] rfl ?_
        exact t_X11_guides_102 hK hA hk he hf)
def f_X11_guides (S : St) : Option (Int32 × St) := lt (sI S 122 0 (0 : Int32)) (fun S17 => lp (f_X11_guides_9b  (fun v18 S19 => lt (sI S19 122 1 (0 : Int32)) (fun S20 => bd (f_X11_enters v18.1.toInt64 S20) (fun r21 S22 => bd (f_J6_bitCount_0f7a4 v18.1 S22) (fun r24 S25 => some (r24, S25)))))) FU ((-1 : Int32), (0 : Int32)) S17)
theorem c_X11_guides {S : St} {r : Int32} {S' : St} (hf : f_X11_guides S = some (r, S')) : zM yX11_guides cX11_guides 5 3 (some .int) [.ref 122] S (some (.int r)) S' := by
  refine zM_of (zpl (by decide)) (Nat.le_of_ble_eq_true rfl) rfl (fun K hK hA => ?_)
  unfold f_X11_guides at hf
  refine j_aload_n hK dX11_guides_0 0 rfl rfl ?_
  refine j_iconst hK (0 : Int32) dX11_guides_1 ic_0 ?_
  refine j_putI hK fl_X11_3 dX11_guides_2 zo_122 zf_11_0 ?_
  refine lt_S hf (fun S17 hf => ?_)
  refine j_iconst hK (-1 : Int32) dX11_guides_5 ic_m1 ?_
  refine j_istore_n hK (L' := [(1, .int (-1 : Int32)), (0, .ref 122)]) dX11_guides_6 rfl (by decide) rfl ?_
  refine j_iconst hK (0 : Int32) dX11_guides_7 ic_0 ?_
  refine j_istore_n hK (L' := [(2, .int (0 : Int32)), (1, .int (-1 : Int32)), (0, .ref 122)]) dX11_guides_8 rfl (by decide) rfl ?_
  refine j_sub [2, 1, 0] rfl ?_
  refine t_X11_guides_9 hK hA  (fun v18 S19 hf => ?_) _ _ _ hf
  refine j_aload_n hK dX11_guides_109 0 rfl rfl ?_
  refine j_iconst hK (0 : Int32) dX11_guides_110 ic_0 ?_
  refine j_putI hK fl_X11_15 dX11_guides_111 zo_122 zf_11_1 ?_
  refine lt_S hf (fun S20 hf => ?_)
  refine j_aload_n hK dX11_guides_114 0 rfl rfl ?_
  refine j_iload_n hK dX11_guides_115 1 rfl rfl ?_
  refine j_i2l hK dX11_guides_116 ?_
  obtain ⟨r21, S22, h23, hf⟩ := bd_J hf
  refine k_callVv hK (c_X11_enters h23) dX11_guides_117 zclX11 zo_122 ml_X11_340 mi_X11_enters mx_X11_enters in_X11 mc_X11_enters hy_X11_enters ⟨by decide, by decide⟩ rfl (Nat.le_of_ble_eq_true rfl) ?_
  refine j_pc (pc' := 120) rfl ?_
  refine j_iload_n hK dX11_guides_120 1 rfl rfl ?_
  obtain ⟨r24, S25, h26, hf⟩ := bd_J hf
  refine k_callSi hK (c_J6_bitCount_0f7a4 h26) dX11_guides_121 ml_X11_355 ms_J6_bitCount_0f7a4 in_J6 mc_J6_bitCount_0f7a4 hy_J6_bitCount_0f7a4 ⟨by decide, by decide⟩ rfl (Nat.le_of_ble_eq_true rfl) ?_
  exact j_iret hK dX11_guides_124 rfl (rt_I hA hf)
def f_X11_most_137 (x1 : Int32) (x2 : Int32) (k e : Int32 × Int32 → St → Option (Int32 × St)) (S : St) : Option (Int32 × St) := k (x1, (x2 + (1 : Int32))) S
theorem t_X11_most_137 {K : CT} (hK : KO K cX11_most RX11 7 2 (some .int)) {r : Int32} {S' : St} (hA : zans K (some (.int r), S')) {x1 : Int32} {x2 : Int32} {k e : Int32 × Int32 → St → Option (Int32 × St)} (hk : ∀ (v : Int32 × Int32) (S : St), k v S = some (r, S') → J K 9 [(0, .ref 122), (1, .int v.1), (2, .int v.2)] [] S) (he : ∀ (v : Int32 × Int32) (S : St), e v S = some (r, S') → J K 143 [(0, .ref 122), (1, .int v.1)] [] S) {S : St} (hf : f_X11_most_137 x1 x2 k e S = some (r, S')) : J K 137 [(0, .ref 122), (1, .int x1), (2, .int x2)] [] S := by
  unfold f_X11_most_137 at hf
  refine j_iinc hK (L' := [(2, .int (x2 + (1 : Int32))), (0, .ref 122), (1, .int x1)]) dX11_most_137 2 rfl (congrArg (fun y => x2 + y) ic_1) (by decide) rfl ?_
  refine j_goto hK 9 dX11_most_140 (by decide) ?_
  refine j_sub [1, 2, 0] rfl ?_
  exact hk _ _ hf
def f_X11_most_136 (x2 : Int32) (s0 : Int32) (k e : Int32 × Int32 → St → Option (Int32 × St)) (S : St) : Option (Int32 × St) := f_X11_most_137 s0 x2 k e S
theorem t_X11_most_136 {K : CT} (hK : KO K cX11_most RX11 7 2 (some .int)) {r : Int32} {S' : St} (hA : zans K (some (.int r), S')) {x2 : Int32} {s0 : Int32} {k e : Int32 × Int32 → St → Option (Int32 × St)} (hk : ∀ (v : Int32 × Int32) (S : St), k v S = some (r, S') → J K 9 [(0, .ref 122), (1, .int v.1), (2, .int v.2)] [] S) (he : ∀ (v : Int32 × Int32) (S : St), e v S = some (r, S') → J K 143 [(0, .ref 122), (1, .int v.1)] [] S) {S : St} (hf : f_X11_most_136 x2 s0 k e S = some (r, S')) : J K 136 [(0, .ref 122), (2, .int x2)] [.int s0] S := by
  unfold f_X11_most_136 at hf
  refine j_istore_n hK (L' := [(1, .int s0), (0, .ref 122), (2, .int x2)]) dX11_most_136 rfl (by decide) rfl ?_
  refine j_sub [1, 0, 2] rfl ?_
  exact t_X11_most_137 hK hA hk he hf
def f_X11_most_113 (x1 : Int32) (x2 : Int32) (x4 : Int32) (x5 : Int32) (x6 : Int32) (s0 : Int32) (k e : Int32 × Int32 × Int32 → St → Option (Int32 × St)) (S : St) : Option (Int32 × St) := lt (x4 ||| x6) (fun y1 => k (s0, y1, (x5 + (1 : Int32))) S)
theorem t_X11_most_113 {K : CT} (hK : KO K cX11_most RX11 7 2 (some .int)) {r : Int32} {S' : St} (hA : zans K (some (.int r), S')) {x1 : Int32} {x2 : Int32} {x4 : Int32} {x5 : Int32} {x6 : Int32} {s0 : Int32} {k e : Int32 × Int32 × Int32 → St → Option (Int32 × St)} (hk : ∀ (v : Int32 × Int32 × Int32) (S : St), k v S = some (r, S') → J K 53 [(0, .ref 122), (1, .int x1), (2, .int x2), (3, .int v.1), (4, .int v.2.1), (5, .int v.2.2)] [] S) (he : ∀ (v : Int32 × Int32 × Int32) (S : St), e v S = some (r, S') → J K 127 [(0, .ref 122), (1, .int x1), (2, .int x2), (3, .int v.1)] [] S) {S : St} (hf : f_X11_most_113 x1 x2 x4 x5 x6 s0 k e S = some (r, S')) : J K 113 [(0, .ref 122), (1, .int x1), (2, .int x2), (4, .int x4), (5, .int x5), (6, .int x6)] [.int s0] S := by
  unfold f_X11_most_113 at hf
  refine j_istore_n hK (L' := [(3, .int s0), (0, .ref 122), (1, .int x1), (2, .int x2), (4, .int x4), (5, .int x5), (6, .int x6)]) dX11_most_113 rfl (by decide) rfl ?_
  refine j_iload hK dX11_most_114 4 rfl ?_
  refine j_iload hK dX11_most_116 6 rfl ?_
  refine j_ior hK dX11_most_118 ?_
  refine lt_I hf (fun y1 hf => ?_)
  refine j_istore hK (L' := [(4, .int y1), (3, .int s0), (0, .ref 122), (1, .int x1), (2, .int x2), (5, .int x5), (6, .int x6)]) dX11_most_119 (by decide) rfl ?_
  refine j_iinc hK (L' := [(5, .int (x5 + (1 : Int32))), (4, .int y1), (3, .int s0), (0, .ref 122), (1, .int x1), (2, .int x2), (6, .int x6)]) dX11_most_121 5 rfl (congrArg (fun y => x5 + y) ic_1) (by decide) rfl ?_
  refine j_goto hK 53 dX11_most_124 (by decide) ?_
  refine j_sub [3, 4, 5, 2, 1, 0] rfl ?_
  exact hk _ _ hf
def f_X11_most_112 (x1 : Int32) (x2 : Int32) (x4 : Int32) (x5 : Int32) (x6 : Int32) (k e : Int32 × Int32 × Int32 → St → Option (Int32 × St)) (S : St) : Option (Int32 × St) := f_X11_most_113 x1 x2 x4 x5 x6 (0 : Int32) k e S
theorem t_X11_most_112 {K : CT} (hK : KO K cX11_most RX11 7 2 (some .int)) {r : Int32} {S' : St} (hA : zans K (some (.int r), S')) {x1 : Int32} {x2 : Int32} {x4 : Int32} {x5 : Int32} {x6 : Int32} {k e : Int32 × Int32 × Int32 → St → Option (Int32 × St)} (hk : ∀ (v : Int32 × Int32 × Int32) (S : St), k v S = some (r, S') → J K 53 [(0, .ref 122), (1, .int x1), (2, .int x2), (3, .int v.1), (4, .int v.2.1), (5, .int v.2.2)] [] S) (he : ∀ (v : Int32 × Int32 × Int32) (S : St), e v S = some (r, S') → J K 127 [(0, .ref 122), (1, .int x1), (2, .int x2), (3, .int v.1)] [] S) {S : St} (hf : f_X11_most_112 x1 x2 x4 x5 x6 k e S = some (r, S')) : J K 112 [(0, .ref 122), (1, .int x1), (2, .int x2), (4, .int x4), (5, .int x5), (6, .int x6)] [] S := by
  unfold f_X11_most_112 at hf
  refine j_iconst hK (0 : Int32) dX11_most_112 ic_0 ?_
  exact t_X11_most_113 hK hA hk he hf
def f_X11_most_94 (x1 : Int32) (x2 : Int32) (x3 : Int32) (x4 : Int32) (x5 : Int32) (s0 : Int32) (k e : Int32 × Int32 × Int32 → St → Option (Int32 × St)) (S : St) : Option (Int32 × St) := (if x3 = 0 then f_X11_most_112 x1 x2 x4 x5 s0 k e S else (if (x4 &&& s0) = 0 then f_X11_most_113 x1 x2 x4 x5 s0 (1 : Int32) k e S else f_X11_most_112 x1 x2 x4 x5 s0 k e S))
theorem t_X11_most_94 {K : CT} (hK : KO K cX11_most RX11 7 2 (some .int)) {r : Int32} {S' : St} (hA : zans K (some (.int r), S')) {x1 : Int32} {x2 : Int32} {x3 : Int32} {x4 : Int32} {x5 : Int32} {s0 : Int32} {k e : Int32 × Int32 × Int32 → St → Option (Int32 × St)} (hk : ∀ (v : Int32 × Int32 × Int32) (S : St), k v S = some (r, S') → J K 53 [(0, .ref 122), (1, .int x1), (2, .int x2), (3, .int v.1), (4, .int v.2.1), (5, .int v.2.2)] [] S) (he : ∀ (v : Int32 × Int32 × Int32) (S : St), e v S = some (r, S') → J K 127 [(0, .ref 122), (1, .int x1), (2, .int x2), (3, .int v.1)] [] S) {S : St} (hf : f_X11_most_94 x1 x2 x3 x4 x5 s0 k e S = some (r, S')) : J K 94 [(0, .ref 122), (1, .int x1), (2, .int x2), (3, .int x3), (4, .int x4), (5, .int x5)] [.int s0] S := by
  unfold f_X11_most_94 at hf
  refine j_istore hK (L' := [(6, .int s0), (0, .ref 122), (1, .int x1), (2, .int x2), (3, .int x3), (4, .int x4), (5, .int x5)]) dX11_most_94 (by decide) rfl ?_
  refine j_iload_n hK dX11_most_96 4 rfl rfl ?_
  refine j_if_eq hK 112 dX11_most_97 (by decide) (fun hc => ?_) (fun hc => ?_)
  · replace hf := if_1 hc hf
    refine j_sub [1, 2, 3, 5, 6, 0] rfl ?_
    exact t_X11_most_112 hK hA hk he hf
  · replace hf := if_2 hc hf
    refine j_iload hK dX11_most_100 5 rfl ?_
    refine j_iload hK dX11_most_102 0 rfl ?_
    refine j_iand hK dX11_most_104 ?_
    refine j_if_ne hK 112 dX11_most_105 (by decide) (fun hc => ?_) (fun hc => ?_)
    · replace hf := if_2 hc hf
      refine j_sub [1, 2, 3, 5, 6, 0] rfl ?_
      exact t_X11_most_112 hK hA hk he hf
    · replace hf := if_1 hc hf
      refine j_iconst hK (1 : Int32) dX11_most_108 ic_1 ?_
      refine j_goto hK 113 dX11_most_109 (by decide) ?_
      refine j_sub [1, 2, 3, 5, 6, 0] rfl ?_
      exact t_X11_most_113 hK hA hk he hf
def f_X11_most_53b (x1 : Int32) (x2 : Int32) (e : Int32 × Int32 × Int32 → St → Option (Int32 × St)) (k : Int32 × Int32 × Int32 → St → Option (Int32 × St)) (v : Int32 × Int32 × Int32) (S : St) : Option (Int32 × St) := (if (gI S 122 3) ≤ v.2.2 then e (v.1, v.2.1, v.2.2) S else bd (f_X11_has x2 v.2.2 S) (fun r2 S3 => (if r2 = 0 then f_X11_most_94 x1 x2 v.1 v.2.1 v.2.2 (0 : Int32) k e S3 else if inb v.2.2 12 then if inb v.2.2 12 then lt (((1 : Int32) <<< ((gI S3 124 v.2.2.toNatClampNeg) &&& 31)) ||| ((1 : Int32) <<< ((gI S3 125 v.2.2.toNatClampNeg) &&& 31))) (fun y7 => f_X11_most_94 x1 x2 v.1 v.2.1 v.2.2 y7 k e S3) else none else none)))
theorem t_X11_most_53 {K : CT} (hK : KO K cX11_most RX11 7 2 (some .int)) {r : Int32} {S' : St} (hA : zans K (some (.int r), S')) {x1 : Int32} {x2 : Int32} {e : Int32 × Int32 × Int32 → St → Option (Int32 × St)} (he : ∀ (v : Int32 × Int32 × Int32) (S : St), e v S = some (r, S') → J K 127 [(0, .ref 122), (1, .int x1), (2, .int x2), (3, .int v.1)] [] S) : ∀ (n : Nat) (v : Int32 × Int32 × Int32) (S : St), lp (f_X11_most_53b x1 x2 e) n v S = some (r, S') → J K 53 [(0, .ref 122), (1, .int x1), (2, .int x2), (3, .int v.1), (4, .int v.2.1), (5, .int v.2.2)] [] S :=
  lp_J (P := fun (v : Int32 × Int32 × Int32) (S : St) => J K 53 [(0, .ref 122), (1, .int x1), (2, .int x2), (3, .int v.1), (4, .int v.2.1), (5, .int v.2.2)] [] S) (fun k hk v S hf => by
    unfold f_X11_most_53b at hf
    refine j_iload hK dX11_most_53 5 rfl ?_
    refine j_aload_n hK dX11_most_55 0 rfl rfl ?_
    refine j_getI hK fl_X11_128 dX11_most_56 zo_122 zf_11_3 ?_
    refine j_icmp_ge hK 127 dX11_most_59 (by decide) (fun hc => ?_) (fun hc => ?_)
    · replace hf := if_1 hc hf
      refine j_sub [0, 1, 2, 3] rfl ?_
      exact he _ _ hf
    · replace hf := if_2 hc hf
      refine j_iload_n hK dX11_most_62 2 rfl rfl ?_
      refine j_iload hK dX11_most_63 5 rfl ?_
      obtain ⟨r2, S3, h4, hf⟩ := bd_J hf
      refine k_callSi hK (c_X11_has h4) dX11_most_65 ml_X11_262 ms_X11_has in_X11 mc_X11_has hy_X11_has ⟨by decide, by decide⟩ rfl (Nat.le_of_ble_eq_true rfl) ?_
      refine j_if_eq hK 93 dX11_most_68 (by decide) (fun hc => ?_) (fun hc => ?_)
      · replace hf := if_1 hc hf
        refine j_iconst hK (0 : Int32) dX11_most_93 ic_0 ?_
        exact t_X11_most_94 hK hA hk he hf
      · replace hf := if_2 hc hf
        refine j_iconst hK (1 : Int32) dX11_most_71 ic_1 ?_
        refine j_aload_n hK dX11_most_72 0 rfl rfl ?_
        refine j_getR hK fl_X11_24 dX11_most_73 zo_122 zf_11_5 zr_122_5 ?_
        refine j_iload hK dX11_most_76 5 rfl ?_
        obtain ⟨hi5, hf⟩ := gd hf
        refine k_iald hK dX11_most_78 zb_124 hi5 rfl ?_
        refine j_ishl hK dX11_most_79 ?_
        refine j_iconst hK (1 : Int32) dX11_most_80 ic_1 ?_
        refine j_pc (pc' := 81) rfl ?_
        refine j_aload_n hK dX11_most_81 0 rfl rfl ?_
        refine j_getR hK fl_X11_28 dX11_most_82 zo_122 zf_11_6 zr_122_6 ?_
        refine j_iload hK dX11_most_85 5 rfl ?_
        obtain ⟨hi6, hf⟩ := gd hf
        refine k_iald hK dX11_most_87 zb_125 hi6 rfl ?_
        refine j_ishl hK dX11_most_88 ?_
        refine j_ior hK dX11_most_89 ?_
        refine lt_I hf (fun y7 hf => ?_)
        refine j_goto hK 94 dX11_most_90 (by decide) ?_
        exact t_X11_most_94 hK hA hk he hf)
def f_X11_most_9b (e : Int32 × Int32 → St → Option (Int32 × St)) (k : Int32 × Int32 → St → Option (Int32 × St)) (v : Int32 × Int32) (S : St) : Option (Int32 × St) := (if (gI S 126 36) < v.2 then e (v.1, v.2) S else (if (v.2 &&& ((gI S 126 36) ^^^ (-1 : Int32))) = 0 then bd (f_J6_bitCount_0f7a4 v.2 S) (fun r8 S9 => bd (f_J6_bitCount_0f7a4 v.1 S9) (fun r11 S12 => (if r8 ≤ r11 then f_X11_most_137 v.1 v.2 k e S12 else lp (f_X11_most_53b v.1 v.2 (fun v14 S15 => (if v14.1 = 0 then f_X11_most_136 v.2 v.1 k e S15 else f_X11_most_136 v.2 v.2 k e S15))) FU ((1 : Int32), (0 : Int32), (0 : Int32)) S12))) else f_X11_most_137 v.1 v.2 k e S))
theorem t_X11_most_9 {K : CT} (hK : KO K cX11_most RX11 7 2 (some .int)) {r : Int32} {S' : St} (hA : zans K (some (.int r), S')) {e : Int32 × Int32 → St → Option (Int32 × St)} (he : ∀ (v : Int32 × Int32) (S : St), e v S = some (r, S') → J K 143 [(0, .ref 122), (1, .int v.1)] [] S) : ∀ (n : Nat) (v : Int32 × Int32) (S : St), lp (f_X11_most_9b  e) n v S = some (r, S') → J K 9 [(0, .ref 122), (1, .int v.1), (2, .int v.2)] [] S :=
  lp_J (P := fun (v : Int32 × Int32) (S : St) => J K 9 [(0, .ref 122), (1, .int v.1), (2, .int v.2)] [] S) (fun k hk v S hf => by
    unfold f_X11_most_9b at hf
    refine j_iload_n hK dX11_most_9 2 rfl rfl ?_
    refine j_aload_n hK dX11_most_10 0 rfl rfl ?_
    refine j_getR hK fl_X11_31 dX11_most_11 zo_122 zf_11_7 zr_122_7 ?_
    refine j_bipush hK (36 : Int32) dX11_most_14 bi_36 ?_
    refine k_iald hK dX11_most_16 zb_126 (by decide) tn_36 ?_
    refine j_icmp_gt hK 143 dX11_most_17 (by decide) (fun hc => ?_) (fun hc => ?_)
    · replace hf := if_1 hc hf
      refine j_sub [0, 1] rfl ?_
      exact he _ _ hf
    · replace hf := if_2 hc hf
      refine j_iload_n hK dX11_most_20 2 rfl rfl ?_
      refine j_aload_n hK dX11_most_21 0 rfl rfl ?_
      refine j_getR hK fl_X11_31 dX11_most_22 zo_122 zf_11_7 zr_122_7 ?_
      refine j_bipush hK (36 : Int32) dX11_most_25 bi_36 ?_
      refine k_iald hK dX11_most_27 zb_126 (by decide) tn_36 ?_
      refine j_iconst hK (-1 : Int32) dX11_most_28 ic_m1 ?_
      refine j_ixor hK dX11_most_29 ?_
      refine j_pc (pc' := 30) rfl ?_
      refine j_iand hK dX11_most_30 ?_
      refine j_if_ne hK 137 dX11_most_31 (by decide) (fun hc => ?_) (fun hc => ?_)
      · replace hf := if_2 hc hf
        exact t_X11_most_137 hK hA hk he hf
      · replace hf := if_1 hc hf
        refine j_iload_n hK dX11_most_34 2 rfl rfl ?_
        obtain ⟨r8, S9, h10, hf⟩ := bd_J hf
        refine k_callSi hK (c_J6_bitCount_0f7a4 h10) dX11_most_35 ml_X11_355 ms_J6_bitCount_0f7a4 in_J6 mc_J6_bitCount_0f7a4 hy_J6_bitCount_0f7a4 ⟨by decide, by decide⟩ rfl (Nat.le_of_ble_eq_true rfl) ?_
        refine j_iload_n hK dX11_most_38 1 rfl rfl ?_
        obtain ⟨r11, S12, h13, hf⟩ := bd_J hf
        refine k_callSi hK (c_J6_bitCount_0f7a4 h13) dX11_most_39 ml_X11_355 ms_J6_bitCount_0f7a4 in_J6 mc_J6_bitCount_0f7a4 hy_J6_bitCount_0f7a4 ⟨by decide, by decide⟩ rfl (Nat.le_of_ble_eq_true rfl) ?_
        refine j_icmp_le hK 137 dX11_most_42 (by decide) (fun hc => ?_) (fun hc => ?_)
        · replace hf := if_1 hc hf
          exact t_X11_most_137 hK hA hk he hf
        · replace hf := if_2 hc hf
          refine j_iconst hK (1 : Int32) dX11_most_45 ic_1 ?_
          refine j_istore_n hK (L' := [(3, .int (1 : Int32)), (0, .ref 122), (1, .int v.1), (2, .int v.2)]) dX11_most_46 rfl (by decide) rfl ?_
          refine j_iconst hK (0 : Int32) dX11_most_47 ic_0 ?_
          refine j_istore hK (L' := [(4, .int (0 : Int32)), (3, .int (1 : Int32)), (0, .ref 122), (1, .int v.1), (2, .int v.2)]) dX11_most_48 (by decide) rfl ?_
          refine j_iconst hK (0 : Int32) dX11_most_50 ic_0 ?_
          refine j_istore hK (L' := [(5, .int (0 : Int32)), (4, .int (0 : Int32)), (3, .int (1 : Int32)), (0, .ref 122), (1, .int v.1), (2, .int v.2)]) dX11_most_51 (by decide) rfl ?_
          refine j_sub [3, 4, 5, 2, 1, 0] rfl ?_
          refine t_X11_most_53 hK hA  (fun v14 S15 hf => ?_) _ _ _ hf
          refine j_iload_n hK dX11_most_127 3 rfl rfl ?_
          refine j_if_eq hK 135 dX11_most_128 (by decide) (fun hc => ?_) (fun hc => ?_)
          · replace hf := if_1 hc hf
            refine j_iload_n hK dX11_most_135 1 rfl rfl ?_
            refine j_sub [0, 2] rfl ?_
            exact t_X11_most_136 hK hA hk he hf
          · replace hf := if_2 hc hf
            refine j_iload_n hK dX11_most_131 2 rfl rfl ?_
            refine j_goto hK 136 dX11_most_132 (by decide) ?_
            refine j_sub [0, 2] rfl ?_
            exact t_X11_most_136 hK hA hk he hf)
def f_X11_most (S : St) : Option (Int32 × St) := lt (sI S 122 0 (0 : Int32)) (fun S16 => lp (f_X11_most_9b  (fun v17 S18 => lt (sI S18 122 1 (0 : Int32)) (fun S19 => bd (f_X11_enters v17.1.toInt64 S19) (fun r20 S21 => bd (f_J6_bitCount_0f7a4 v17.1 S21) (fun r23 S24 => some (r23, S24)))))) FU ((0 : Int32), (1 : Int32)) S16)
theorem c_X11_most {S : St} {r : Int32} {S' : St} (hf : f_X11_most S = some (r, S')) : zM yX11_most cX11_most 7 2 (some .int) [.ref 122] S (some (.int r)) S' := by
  refine zM_of (zpl (by decide)) (Nat.le_of_ble_eq_true rfl) rfl (fun K hK hA => ?_)
  unfold f_X11_most at hf
  refine j_aload_n hK dX11_most_0 0 rfl rfl ?_
  refine j_iconst hK (0 : Int32) dX11_most_1 ic_0 ?_
  refine j_putI hK fl_X11_3 dX11_most_2 zo_122 zf_11_0 ?_
  refine lt_S hf (fun S16 hf => ?_)
  refine j_iconst hK (0 : Int32) dX11_most_5 ic_0 ?_
  refine j_istore_n hK (L' := [(1, .int (0 : Int32)), (0, .ref 122)]) dX11_most_6 rfl (by decide) rfl ?_
  refine j_iconst hK (1 : Int32) dX11_most_7 ic_1 ?_
  refine j_istore_n hK (L' := [(2, .int (1 : Int32)), (1, .int (0 : Int32)), (0, .ref 122)]) dX11_most_8 rfl (by decide) rfl ?_
  refine j_sub [2, 1, 0] rfl ?_
  refine t_X11_most_9 hK hA  (fun v17 S18 hf => ?_) _ _ _ hf
  refine j_aload_n hK dX11_most_143 0 rfl rfl ?_
  refine j_iconst hK (0 : Int32) dX11_most_144 ic_0 ?_
  refine j_putI hK fl_X11_15 dX11_most_145 zo_122 zf_11_1 ?_
  refine lt_S hf (fun S19 hf => ?_)
  refine j_aload_n hK dX11_most_148 0 rfl rfl ?_
  refine j_iload_n hK dX11_most_149 1 rfl rfl ?_
  refine j_i2l hK dX11_most_150 ?_
  obtain ⟨r20, S21, h22, hf⟩ := bd_J hf
  refine k_callVv hK (c_X11_enters h22) dX11_most_151 zclX11 zo_122 ml_X11_340 mi_X11_enters mx_X11_enters in_X11 mc_X11_enters hy_X11_enters ⟨by decide, by decide⟩ rfl (Nat.le_of_ble_eq_true rfl) ?_
  refine j_pc (pc' := 154) rfl ?_
  refine j_iload_n hK dX11_most_154 1 rfl rfl ?_
  obtain ⟨r23, S24, h25, hf⟩ := bd_J hf
  refine k_callSi hK (c_J6_bitCount_0f7a4 h25) dX11_most_155 ml_X11_355 ms_J6_bitCount_0f7a4 in_J6 mc_J6_bitCount_0f7a4 hy_J6_bitCount_0f7a4 ⟨by decide, by decide⟩ rfl (Nat.le_of_ble_eq_true rfl) ?_
  exact j_iret hK dX11_most_158 rfl (rt_I hA hf)
