def f_X11_areJoined (p1 : Int32) (p2 : Int32) (S : St) : Option (Int32 × St) := bd (f_X11_farOf p1 p2 S) (fun r1 S2 => (if (1000000 : Int32) ≤ r1 then some ((0 : Int32), S2) else some ((1 : Int32), S2)))
theorem c_X11_areJoined {p1 : Int32} {p2 : Int32} {S : St} {r : Int32} {S' : St} (hf : f_X11_areJoined p1 p2 S = some (r, S')) : zM yX11_areJoined cX11_areJoined 3 2 (some .boolean) [.ref 122, .int p1, .int p2] S (some (.int r)) S' := by
  refine zM_of (zpl (by decide)) (Nat.le_of_ble_eq_true rfl) rfl (fun K hK hA => ?_)
  unfold f_X11_areJoined at hf
  refine j_aload_n hK dX11_areJoined_0 0 rfl rfl ?_
  refine j_iload_n hK dX11_areJoined_1 1 rfl rfl ?_
  refine j_iload_n hK dX11_areJoined_2 2 rfl rfl ?_
  obtain ⟨r1, S2, h3, hf⟩ := bd_J hf
  refine k_callVi hK (c_X11_farOf h3) dX11_areJoined_3 zclX11 zo_122 ml_X11_291 mi_X11_farOf mx_X11_farOf in_X11 mc_X11_farOf hy_X11_farOf ⟨by decide, by decide⟩ rfl (Nat.le_of_ble_eq_true rfl) ?_
  refine j_ldcw hK (v := (1000000 : Int32)) cn_X11_290 dX11_areJoined_6 ?_
  refine j_icmp_ge hK 16 dX11_areJoined_9 (by decide) (fun hc => ?_) (fun hc => ?_)
  · replace hf := if_1 hc hf
    refine j_iconst hK (0 : Int32) dX11_areJoined_16 ic_0 ?_
    exact j_zret hK dX11_areJoined_17 rfl rfl (rt_I hA hf)
  · replace hf := if_2 hc hf
    refine j_iconst hK (1 : Int32) dX11_areJoined_12 ic_1 ?_
    refine j_goto hK 17 dX11_areJoined_13 (by decide) ?_
    exact j_zret hK dX11_areJoined_17 rfl rfl (rt_I hA hf)
def f_X11_joinedTo_27 (x1 : Int32) (x3 : Int32) (s0 : Int32) (s1 : Int32) (k e : Int32 × Int32 → St → Option (Int32 × St)) (S : St) : Option (Int32 × St) := lt (s0 ||| s1) (fun y1 => k (y1, (x3 + (1 : Int32))) S)
theorem t_X11_joinedTo_27 {K : CT} (hK : KO K cX11_joinedTo RX11 4 3 (some .int)) {r : Int32} {S' : St} (hA : zans K (some (.int r), S')) {x1 : Int32} {x3 : Int32} {s0 : Int32} {s1 : Int32} {k e : Int32 × Int32 → St → Option (Int32 × St)} (hk : ∀ (v : Int32 × Int32) (S : St), k v S = some (r, S') → J K 4 [(0, .ref 122), (1, .int x1), (2, .int v.1), (3, .int v.2)] [] S) (he : ∀ (v : Int32 × Int32) (S : St), e v S = some (r, S') → J K 35 [(2, .int v.1)] [] S) {S : St} (hf : f_X11_joinedTo_27 x1 x3 s0 s1 k e S = some (r, S')) : J K 27 [(0, .ref 122), (1, .int x1), (3, .int x3)] [.int s1, .int s0] S := by
  unfold f_X11_joinedTo_27 at hf
  refine j_ior hK dX11_joinedTo_27 ?_
  refine lt_I hf (fun y1 hf => ?_)
  refine j_istore_n hK (L' := [(2, .int y1), (0, .ref 122), (1, .int x1), (3, .int x3)]) dX11_joinedTo_28 rfl (by decide) rfl ?_
  refine j_iinc hK (L' := [(3, .int (x3 + (1 : Int32))), (2, .int y1), (0, .ref 122), (1, .int x1)]) dX11_joinedTo_29 3 rfl (congrArg (fun y => x3 + y) ic_1) (by decide) rfl ?_
  refine j_goto hK 4 dX11_joinedTo_32 (by decide) ?_
  refine j_sub [2, 3, 1, 0] rfl ?_
  exact hk _ _ hf
def f_X11_joinedTo_4b (x1 : Int32) (e : Int32 × Int32 → St → Option (Int32 × St)) (k : Int32 × Int32 → St → Option (Int32 × St)) (v : Int32 × Int32) (S : St) : Option (Int32 × St) := (if (8 : Int32) ≤ v.2 then e (v.1, v.2) S else bd (f_X11_areJoined x1 v.2 S) (fun r2 S3 => (if r2 = 0 then f_X11_joinedTo_27 x1 v.2 v.1 (0 : Int32) k e S3 else f_X11_joinedTo_27 x1 v.2 v.1 ((1 : Int32) <<< (v.2 &&& 31)) k e S3)))
theorem t_X11_joinedTo_4 {K : CT} (hK : KO K cX11_joinedTo RX11 4 3 (some .int)) {r : Int32} {S' : St} (hA : zans K (some (.int r), S')) {x1 : Int32} {e : Int32 × Int32 → St → Option (Int32 × St)} (he : ∀ (v : Int32 × Int32) (S : St), e v S = some (r, S') → J K 35 [(2, .int v.1)] [] S) : ∀ (n : Nat) (v : Int32 × Int32) (S : St), lp (f_X11_joinedTo_4b x1 e) n v S = some (r, S') → J K 4 [(0, .ref 122), (1, .int x1), (2, .int v.1), (3, .int v.2)] [] S :=
  lp_J (P := fun (v : Int32 × Int32) (S : St) => J K 4 [(0, .ref 122), (1, .int x1), (2, .int v.1), (3, .int v.2)] [] S) (fun k hk v S hf => by
    unfold f_X11_joinedTo_4b at hf
    refine j_iload_n hK dX11_joinedTo_4 3 rfl rfl ?_
    refine j_bipush hK (8 : Int32) dX11_joinedTo_5 bi_8 ?_
    refine j_icmp_ge hK 35 dX11_joinedTo_7 (by decide) (fun hc => ?_) (fun hc => ?_)
    · replace hf := if_1 hc hf
      refine j_sub [2] rfl ?_
      exact he _ _ hf
    · replace hf := if_2 hc hf
      refine j_iload_n hK dX11_joinedTo_10 2 rfl rfl ?_
      refine j_aload_n hK dX11_joinedTo_11 0 rfl rfl ?_
      refine j_iload_n hK dX11_joinedTo_12 1 rfl rfl ?_
      refine j_iload_n hK dX11_joinedTo_13 3 rfl rfl ?_
      obtain ⟨r2, S3, h4, hf⟩ := bd_J hf
      refine k_callVi hK (c_X11_areJoined h4) dX11_joinedTo_14 zclX11 zo_122 ml_X11_294 mi_X11_areJoined mx_X11_areJoined in_X11 mc_X11_areJoined hy_X11_areJoined ⟨by decide, by decide⟩ rfl (Nat.le_of_ble_eq_true rfl) ?_
      refine j_if_eq hK 26 dX11_joinedTo_17 (by decide) (fun hc => ?_) (fun hc => ?_)
      · replace hf := if_1 hc hf
        refine j_iconst hK (0 : Int32) dX11_joinedTo_26 ic_0 ?_
        refine j_sub [0, 1, 3] rfl ?_
        exact t_X11_joinedTo_27 hK hA hk he hf
      · replace hf := if_2 hc hf
        refine j_iconst hK (1 : Int32) dX11_joinedTo_20 ic_1 ?_
        refine j_iload_n hK dX11_joinedTo_21 3 rfl rfl ?_
        refine j_ishl hK dX11_joinedTo_22 ?_
        refine j_goto hK 27 dX11_joinedTo_23 (by decide) ?_
        refine j_sub [0, 1, 3] rfl ?_
        exact t_X11_joinedTo_27 hK hA hk he hf)
def f_X11_joinedTo (p1 : Int32) (S : St) : Option (Int32 × St) := lp (f_X11_joinedTo_4b p1 (fun v5 S6 => some (v5.1, S6))) FU ((0 : Int32), (0 : Int32)) S
theorem c_X11_joinedTo {p1 : Int32} {S : St} {r : Int32} {S' : St} (hf : f_X11_joinedTo p1 S = some (r, S')) : zM yX11_joinedTo cX11_joinedTo 4 3 (some .int) [.ref 122, .int p1] S (some (.int r)) S' := by
  refine zM_of (zpl (by decide)) (Nat.le_of_ble_eq_true rfl) rfl (fun K hK hA => ?_)
  unfold f_X11_joinedTo at hf
  refine j_iconst hK (0 : Int32) dX11_joinedTo_0 ic_0 ?_
  refine j_istore_n hK (L' := [(2, .int (0 : Int32)), (0, .ref 122), (1, .int p1)]) dX11_joinedTo_1 rfl (by decide) rfl ?_
  refine j_iconst hK (0 : Int32) dX11_joinedTo_2 ic_0 ?_
  refine j_istore_n hK (L' := [(3, .int (0 : Int32)), (2, .int (0 : Int32)), (0, .ref 122), (1, .int p1)]) dX11_joinedTo_3 rfl (by decide) rfl ?_
  refine j_sub [2, 3, 1, 0] rfl ?_
  refine t_X11_joinedTo_4 hK hA  (fun v5 S6 hf => ?_) _ _ _ hf
  refine j_iload_n hK dX11_joinedTo_35 0 rfl rfl ?_
  exact j_iret hK dX11_joinedTo_36 rfl (rt_I hA hf)
def f_X11_farthest_33 (x1 : Int32) (x3 : Int32) (s0 : Int32) (k e : Int32 × Int32 → St → Option (Int32 × St)) (S : St) : Option (Int32 × St) := k (s0, (x3 + (1 : Int32))) S
theorem t_X11_farthest_33 {K : CT} (hK : KO K cX11_farthest RX11 4 3 (some .int)) {r : Int32} {S' : St} (hA : zans K (some (.int r), S')) {x1 : Int32} {x3 : Int32} {s0 : Int32} {k e : Int32 × Int32 → St → Option (Int32 × St)} (hk : ∀ (v : Int32 × Int32) (S : St), k v S = some (r, S') → J K 4 [(0, .ref 122), (1, .int x1), (2, .int v.1), (3, .int v.2)] [] S) (he : ∀ (v : Int32 × Int32) (S : St), e v S = some (r, S') → J K 40 [(2, .int v.1)] [] S) {S : St} (hf : f_X11_farthest_33 x1 x3 s0 k e S = some (r, S')) : J K 33 [(0, .ref 122), (1, .int x1), (3, .int x3)] [.int s0] S := by
  unfold f_X11_farthest_33 at hf
  refine j_istore_n hK (L' := [(2, .int s0), (0, .ref 122), (1, .int x1), (3, .int x3)]) dX11_farthest_33 rfl (by decide) rfl ?_
  refine j_iinc hK (L' := [(3, .int (x3 + (1 : Int32))), (2, .int s0), (0, .ref 122), (1, .int x1)]) dX11_farthest_34 3 rfl (congrArg (fun y => x3 + y) ic_1) (by decide) rfl ?_
  refine j_goto hK 4 dX11_farthest_37 (by decide) ?_
  refine j_sub [2, 3, 1, 0] rfl ?_
  exact hk _ _ hf
def f_X11_farthest_4b (x1 : Int32) (e : Int32 × Int32 → St → Option (Int32 × St)) (k : Int32 × Int32 → St → Option (Int32 × St)) (v : Int32 × Int32) (S : St) : Option (Int32 × St) := (if (8 : Int32) ≤ v.2 then e (v.1, v.2) S else bd (f_X11_areJoined x1 v.2 S) (fun r1 S2 => (if r1 = 0 then f_X11_farthest_33 x1 v.2 v.1 k e S2 else bd (f_X11_farOf x1 v.2 S2) (fun r4 S5 => f_X11_farthest_33 x1 v.2 (mxI v.1 r4) k e S5))))
theorem t_X11_farthest_4 {K : CT} (hK : KO K cX11_farthest RX11 4 3 (some .int)) {r : Int32} {S' : St} (hA : zans K (some (.int r), S')) {x1 : Int32} {e : Int32 × Int32 → St → Option (Int32 × St)} (he : ∀ (v : Int32 × Int32) (S : St), e v S = some (r, S') → J K 40 [(2, .int v.1)] [] S) : ∀ (n : Nat) (v : Int32 × Int32) (S : St), lp (f_X11_farthest_4b x1 e) n v S = some (r, S') → J K 4 [(0, .ref 122), (1, .int x1), (2, .int v.1), (3, .int v.2)] [] S :=
  lp_J (P := fun (v : Int32 × Int32) (S : St) => J K 4 [(0, .ref 122), (1, .int x1), (2, .int v.1), (3, .int v.2)] [] S) (fun k hk v S hf => by
    unfold f_X11_farthest_4b at hf
    refine j_iload_n hK dX11_farthest_4 3 rfl rfl ?_
    refine j_bipush hK (8 : Int32) dX11_farthest_5 bi_8 ?_
    refine j_icmp_ge hK 40 dX11_farthest_7 (by decide) (fun hc => ?_) (fun hc => ?_)
    · replace hf := if_1 hc hf
      refine j_sub [2] rfl ?_
      exact he _ _ hf
    · replace hf := if_2 hc hf
      refine j_aload_n hK dX11_farthest_10 0 rfl rfl ?_
      refine j_iload_n hK dX11_farthest_11 1 rfl rfl ?_
      refine j_iload_n hK dX11_farthest_12 3 rfl rfl ?_
      obtain ⟨r1, S2, h3, hf⟩ := bd_J hf
      refine k_callVi hK (c_X11_areJoined h3) dX11_farthest_13 zclX11 zo_122 ml_X11_294 mi_X11_areJoined mx_X11_areJoined in_X11 mc_X11_areJoined hy_X11_areJoined ⟨by decide, by decide⟩ rfl (Nat.le_of_ble_eq_true rfl) ?_
      refine j_if_eq hK 32 dX11_farthest_16 (by decide) (fun hc => ?_) (fun hc => ?_)
      · replace hf := if_1 hc hf
        refine j_iload_n hK dX11_farthest_32 2 rfl rfl ?_
        refine j_sub [0, 1, 3] rfl ?_
        exact t_X11_farthest_33 hK hA hk he hf
      · replace hf := if_2 hc hf
        refine j_iload_n hK dX11_farthest_19 2 rfl rfl ?_
        refine j_aload_n hK dX11_farthest_20 0 rfl rfl ?_
        refine j_iload_n hK dX11_farthest_21 1 rfl rfl ?_
        refine j_iload_n hK dX11_farthest_22 3 rfl rfl ?_
        obtain ⟨r4, S5, h6, hf⟩ := bd_J hf
        refine k_callVi hK (c_X11_farOf h6) dX11_farthest_23 zclX11 zo_122 ml_X11_291 mi_X11_farOf mx_X11_farOf in_X11 mc_X11_farOf hy_X11_farOf ⟨by decide, by decide⟩ rfl (Nat.le_of_ble_eq_true rfl) ?_
        refine j_max hK ml_X11_297 dX11_farthest_26 (by decide) (Nat.le_of_ble_eq_true rfl) ?_
        refine j_goto hK 33 dX11_farthest_29 (by decide) ?_
        refine j_sub [0, 1, 3] rfl ?_
        exact t_X11_farthest_33 hK hA hk he hf)
def f_X11_farthest (p1 : Int32) (S : St) : Option (Int32 × St) := lp (f_X11_farthest_4b p1 (fun v7 S8 => some (v7.1, S8))) FU ((0 : Int32), (0 : Int32)) S
theorem c_X11_farthest {p1 : Int32} {S : St} {r : Int32} {S' : St} (hf : f_X11_farthest p1 S = some (r, S')) : zM yX11_farthest cX11_farthest 4 3 (some .int) [.ref 122, .int p1] S (some (.int r)) S' := by
  refine zM_of (zpl (by decide)) (Nat.le_of_ble_eq_true rfl) rfl (fun K hK hA => ?_)
  unfold f_X11_farthest at hf
  refine j_iconst hK (0 : Int32) dX11_farthest_0 ic_0 ?_
  refine j_istore_n hK (L' := [(2, .int (0 : Int32)), (0, .ref 122), (1, .int p1)]) dX11_farthest_1 rfl (by decide) rfl ?_
  refine j_iconst hK (0 : Int32) dX11_farthest_2 ic_0 ?_
  refine j_istore_n hK (L' := [(3, .int (0 : Int32)), (2, .int (0 : Int32)), (0, .ref 122), (1, .int p1)]) dX11_farthest_3 rfl (by decide) rfl ?_
  refine j_sub [2, 3, 1, 0] rfl ?_
  refine t_X11_farthest_4 hK hA  (fun v7 S8 hf => ?_) _ _ _ hf
  refine j_iload_n hK dX11_farthest_40 0 rfl rfl ?_
  exact j_iret hK dX11_farthest_41 rfl (rt_I hA hf)
def f_X11_openOf_43 (x1 : Int32) (x3 : Int32) (s0 : Int32) (s1 : Int32) (k e : Int32 × Int32 → St → Option (Int32 × St)) (S : St) : Option (Int32 × St) := lt (s0 ||| s1) (fun y1 => k (y1, (x3 + (1 : Int32))) S)
theorem t_X11_openOf_43 {K : CT} (hK : KO K cX11_openOf RX11 4 2 (some .int)) {r : Int32} {S' : St} (hA : zans K (some (.int r), S')) {x1 : Int32} {x3 : Int32} {s0 : Int32} {s1 : Int32} {k e : Int32 × Int32 → St → Option (Int32 × St)} (hk : ∀ (v : Int32 × Int32) (S : St), k v S = some (r, S') → J K 4 [(0, .ref 122), (1, .int x1), (2, .int v.1), (3, .int v.2)] [] S) (he : ∀ (v : Int32 × Int32) (S : St), e v S = some (r, S') → J K 51 [(2, .int v.1)] [] S) {S : St} (hf : f_X11_openOf_43 x1 x3 s0 s1 k e S = some (r, S')) : J K 43 [(0, .ref 122), (1, .int x1), (3, .int x3)] [.int s1, .int s0] S := by
  unfold f_X11_openOf_43 at hf
  refine j_ior hK dX11_openOf_43 ?_
  refine lt_I hf (fun y1 hf => ?_)
  refine j_istore_n hK (L' := [(2, .int y1), (0, .ref 122), (1, .int x1), (3, .int x3)]) dX11_openOf_44 rfl (by decide) rfl ?_
  refine j_iinc hK (L' := [(3, .int (x3 + (1 : Int32))), (2, .int y1), (0, .ref 122), (1, .int x1)]) dX11_openOf_45 3 rfl (congrArg (fun y => x3 + y) ic_1) (by decide) rfl ?_
  refine j_goto hK 4 dX11_openOf_48 (by decide) ?_
  refine j_sub [2, 3, 1, 0] rfl ?_
  exact hk _ _ hf
def f_X11_openOf_42 (x1 : Int32) (x3 : Int32) (s0 : Int32) (k e : Int32 × Int32 → St → Option (Int32 × St)) (S : St) : Option (Int32 × St) := f_X11_openOf_43 x1 x3 s0 (0 : Int32) k e S
theorem t_X11_openOf_42 {K : CT} (hK : KO K cX11_openOf RX11 4 2 (some .int)) {r : Int32} {S' : St} (hA : zans K (some (.int r), S')) {x1 : Int32} {x3 : Int32} {s0 : Int32} {k e : Int32 × Int32 → St → Option (Int32 × St)} (hk : ∀ (v : Int32 × Int32) (S : St), k v S = some (r, S') → J K 4 [(0, .ref 122), (1, .int x1), (2, .int v.1), (3, .int v.2)] [] S) (he : ∀ (v : Int32 × Int32) (S : St), e v S = some (r, S') → J K 51 [(2, .int v.1)] [] S) {S : St} (hf : f_X11_openOf_42 x1 x3 s0 k e S = some (r, S')) : J K 42 [(0, .ref 122), (1, .int x1), (3, .int x3)] [.int s0] S := by
  unfold f_X11_openOf_42 at hf
  refine j_iconst hK (0 : Int32) dX11_openOf_42 ic_0 ?_
  exact t_X11_openOf_43 hK hA hk he hf
def f_X11_openOf_4b (x1 : Int32) (e : Int32 × Int32 → St → Option (Int32 × St)) (k : Int32 × Int32 → St → Option (Int32 × St)) (v : Int32 × Int32) (S : St) : Option (Int32 × St) := (if (gI S 122 3) ≤ v.2 then e (v.1, v.2) S else bd (f_X11_has (gI S 126 36) v.2 S) (fun r2 S3 => (if r2 = 0 then f_X11_openOf_42 x1 v.2 v.1 k e S3 else bd (f_X11_isEnd v.2 x1 S3) (fun r5 S6 => (if r5 = 0 then f_X11_openOf_42 x1 v.2 v.1 k e S6 else f_X11_openOf_43 x1 v.2 v.1 ((1 : Int32) <<< (v.2 &&& 31)) k e S6)))))
theorem t_X11_openOf_4 {K : CT} (hK : KO K cX11_openOf RX11 4 2 (some .int)) {r : Int32} {S' : St} (hA : zans K (some (.int r), S')) {x1 : Int32} {e : Int32 × Int32 → St → Option (Int32 × St)} (he : ∀ (v : Int32 × Int32) (S : St), e v S = some (r, S') → J K 51 [(2, .int v.1)] [] S) : ∀ (n : Nat) (v : Int32 × Int32) (S : St), lp (f_X11_openOf_4b x1 e) n v S = some (r, S') → J K 4 [(0, .ref 122), (1, .int x1), (2, .int v.1), (3, .int v.2)] [] S :=
  lp_J (P := fun (v : Int32 × Int32) (S : St) => J K 4 [(0, .ref 122), (1, .int x1), (2, .int v.1), (3, .int v.2)] [] S) (fun k hk v S hf => by
    unfold f_X11_openOf_4b at hf
    refine j_iload_n hK dX11_openOf_4 3 rfl rfl ?_
    refine j_aload_n hK dX11_openOf_5 0 rfl rfl ?_
    refine j_getI hK fl_X11_128 dX11_openOf_6 zo_122 zf_11_3 ?_
    refine j_icmp_ge hK 51 dX11_openOf_9 (by decide) (fun hc => ?_) (fun hc => ?_)
    · replace hf := if_1 hc hf
      refine j_sub [2] rfl ?_
      exact he _ _ hf
    · replace hf := if_2 hc hf
      refine j_iload_n hK dX11_openOf_12 2 rfl rfl ?_
      refine j_aload_n hK dX11_openOf_13 0 rfl rfl ?_
      refine j_getR hK fl_X11_31 dX11_openOf_14 zo_122 zf_11_7 zr_122_7 ?_
      refine j_bipush hK (36 : Int32) dX11_openOf_17 bi_36 ?_
      refine k_iald hK dX11_openOf_19 zb_126 (by decide) tn_36 ?_
      refine j_iload_n hK dX11_openOf_20 3 rfl rfl ?_
      obtain ⟨r2, S3, h4, hf⟩ := bd_J hf
      refine k_callSi hK (c_X11_has h4) dX11_openOf_21 ml_X11_262 ms_X11_has in_X11 mc_X11_has hy_X11_has ⟨by decide, by decide⟩ rfl (Nat.le_of_ble_eq_true rfl) ?_
      refine j_pc (pc' := 24) rfl ?_
      refine j_if_eq hK 42 dX11_openOf_24 (by decide) (fun hc => ?_) (fun hc => ?_)
      · replace hf := if_1 hc hf
        refine j_sub [0, 1, 3] rfl ?_
        exact t_X11_openOf_42 hK hA hk he hf
      · replace hf := if_2 hc hf
        refine j_aload_n hK dX11_openOf_27 0 rfl rfl ?_
        refine j_iload_n hK dX11_openOf_28 3 rfl rfl ?_
        refine j_iload_n hK dX11_openOf_29 1 rfl rfl ?_
        obtain ⟨r5, S6, h7, hf⟩ := bd_J hf
        refine k_callVi hK (c_X11_isEnd h7) dX11_openOf_30 zclX11 zo_122 ml_X11_266 mi_X11_isEnd mx_X11_isEnd in_X11 mc_X11_isEnd hy_X11_isEnd ⟨by decide, by decide⟩ rfl (Nat.le_of_ble_eq_true rfl) ?_
        refine j_if_eq hK 42 dX11_openOf_33 (by decide) (fun hc => ?_) (fun hc => ?_)
        · replace hf := if_1 hc hf
          refine j_sub [0, 1, 3] rfl ?_
          exact t_X11_openOf_42 hK hA hk he hf
        · replace hf := if_2 hc hf
          refine j_iconst hK (1 : Int32) dX11_openOf_36 ic_1 ?_
          refine j_iload_n hK dX11_openOf_37 3 rfl rfl ?_
          refine j_ishl hK dX11_openOf_38 ?_
          refine j_goto hK 43 dX11_openOf_39 (by decide) ?_
          refine j_sub [0, 1, 3] rfl ?_
          exact t_X11_openOf_43 hK hA hk he hf)
def f_X11_openOf (p1 : Int32) (S : St) : Option (Int32 × St) := lp (f_X11_openOf_4b p1 (fun v8 S9 => some (v8.1, S9))) FU ((0 : Int32), (0 : Int32)) S
theorem c_X11_openOf {p1 : Int32} {S : St} {r : Int32} {S' : St} (hf : f_X11_openOf p1 S = some (r, S')) : zM yX11_openOf cX11_openOf 4 2 (some .int) [.ref 122, .int p1] S (some (.int r)) S' := by
  refine zM_of (zpl (by decide)) (Nat.le_of_ble_eq_true rfl) rfl (fun K hK hA => ?_)
  unfold f_X11_openOf at hf
  refine j_iconst hK (0 : Int32) dX11_openOf_0 ic_0 ?_
  refine j_istore_n hK (L' := [(2, .int (0 : Int32)), (0, .ref 122), (1, .int p1)]) dX11_openOf_1 rfl (by decide) rfl ?_
  refine j_iconst hK (0 : Int32) dX11_openOf_2 ic_0 ?_
  refine j_istore_n hK (L' := [(3, .int (0 : Int32)), (2, .int (0 : Int32)), (0, .ref 122), (1, .int p1)]) dX11_openOf_3 rfl (by decide) rfl ?_
  refine j_sub [2, 3, 1, 0] rfl ?_
  refine t_X11_openOf_4 hK hA  (fun v8 S9 hf => ?_) _ _ _ hf
  refine j_iload_n hK dX11_openOf_51 0 rfl rfl ?_
  exact j_iret hK dX11_openOf_52 rfl (rt_I hA hf)
def f_X11_cavern_24 (S : St) : Option (Int32 × St) := bd (f_X11_refuse S) (fun r1 S2 => some (r1, S2))
theorem t_X11_cavern_24 {K : CT} (hK : KO K cX11_cavern RX11 3 4 (some .int)) {r : Int32} {S' : St} (hA : zans K (some (.int r), S')) {S : St} (hf : f_X11_cavern_24  S = some (r, S')) : J K 24 [(0, .ref 122)] [] S := by
  unfold f_X11_cavern_24 at hf
  refine j_aload_n hK dX11_cavern_24 0 rfl rfl ?_
  obtain ⟨r1, S2, h3, hf⟩ := bd_J hf
  refine k_callVi hK (c_X11_refuse h3) dX11_cavern_25 zclX11 zo_122 ml_X11_287 mi_X11_refuse mx_X11_refuse in_X11 mc_X11_refuse hy_X11_refuse ⟨by decide, by decide⟩ rfl (Nat.le_of_ble_eq_true rfl) ?_
  exact j_iret hK dX11_cavern_28 rfl (rt_I hA hf)
def f_X11_cavern (p1 : Int32) (p2 : Int32) (S : St) : Option (Int32 × St) := lt (sI S 122 0 (0 : Int32)) (fun S4 => bd (f_X11_isCavern p1 S4) (fun r5 S6 => (if r5 = 0 then f_X11_cavern_24  S6 else bd (f_X11_in p2.toInt64 (0 : Int64) (2 : Int64) S6) (fun r8 S9 => (if r8 = 0 then f_X11_cavern_24  S9 else bd (f_X11_laysFar (gI S9 126 36) S9) (fun r11 S12 => (if p2 = 0 then bd (f_X11_openOf p1 S12) (fun r20 S21 => some (r20, S21)) else (if p2 = (1 : Int32) then bd (f_X11_joinedTo p1 S12) (fun r17 S18 => some (r17, S18)) else bd (f_X11_farthest p1 S12) (fun r14 S15 => some (r14, S15))))))))))
theorem c_X11_cavern {p1 : Int32} {p2 : Int32} {S : St} {r : Int32} {S' : St} (hf : f_X11_cavern p1 p2 S = some (r, S')) : zM yX11_cavern cX11_cavern 3 4 (some .int) [.ref 122, .int p1, .int p2] S (some (.int r)) S' := by
  refine zM_of (zpl (by decide)) (Nat.le_of_ble_eq_true rfl) rfl (fun K hK hA => ?_)
  unfold f_X11_cavern at hf
  refine j_aload_n hK dX11_cavern_0 0 rfl rfl ?_
  refine j_iconst hK (0 : Int32) dX11_cavern_1 ic_0 ?_
  refine j_putI hK fl_X11_3 dX11_cavern_2 zo_122 zf_11_0 ?_
  refine lt_S hf (fun S4 hf => ?_)
  refine j_iload_n hK dX11_cavern_5 1 rfl rfl ?_
  obtain ⟨r5, S6, h7, hf⟩ := bd_J hf
  refine k_callSi hK (c_X11_isCavern h7) dX11_cavern_6 ml_X11_256 ms_X11_isCavern in_X11 mc_X11_isCavern hy_X11_isCavern ⟨by decide, by decide⟩ rfl (Nat.le_of_ble_eq_true rfl) ?_
  refine j_if_eq hK 24 dX11_cavern_9 (by decide) (fun hc => ?_) (fun hc => ?_)
  · replace hf := if_1 hc hf
    refine j_sub [0] rfl ?_
    exact t_X11_cavern_24 hK hA  hf
  · replace hf := if_2 hc hf
    refine j_iload_n hK dX11_cavern_12 2 rfl rfl ?_
    refine j_i2l hK dX11_cavern_13 ?_
    refine j_lconst hK (0 : Int64) dX11_cavern_14 lc_0 ?_
    refine j_ldc2 hK (v := (2 : Int64)) cl_X11_300 dX11_cavern_15 ?_
    obtain ⟨r8, S9, h10, hf⟩ := bd_J hf
    refine k_callSi hK (c_X11_in h10) dX11_cavern_18 ml_X11_131 ms_X11_in in_X11 mc_X11_in hy_X11_in ⟨by decide, by decide⟩ rfl (Nat.le_of_ble_eq_true rfl) ?_
    refine j_if_ne hK 29 dX11_cavern_21 (by decide) (fun hc => ?_) (fun hc => ?_)
    · replace hf := if_2 hc hf
      refine j_aload_n hK dX11_cavern_29 0 rfl rfl ?_
      refine j_aload_n hK dX11_cavern_30 0 rfl rfl ?_
      refine j_getR hK fl_X11_31 dX11_cavern_31 zo_122 zf_11_7 zr_122_7 ?_
      refine j_bipush hK (36 : Int32) dX11_cavern_34 bi_36 ?_
      refine k_iald hK dX11_cavern_36 zb_126 (by decide) tn_36 ?_
      obtain ⟨r11, S12, h13, hf⟩ := bd_J hf
      refine k_callVv hK (c_X11_laysFar h13) dX11_cavern_37 zclX11 zo_122 ml_X11_302 mi_X11_laysFar mx_X11_laysFar in_X11 mc_X11_laysFar hy_X11_laysFar ⟨by decide, by decide⟩ rfl (Nat.le_of_ble_eq_true rfl) ?_
      refine j_iload_n hK dX11_cavern_40 2 rfl rfl ?_
      refine j_pc (pc' := 41) rfl ?_
      refine j_if_ne hK 52 dX11_cavern_41 (by decide) (fun hc => ?_) (fun hc => ?_)
      · replace hf := if_2 hc hf
        refine j_iload_n hK dX11_cavern_52 2 rfl rfl ?_
        refine j_iconst hK (1 : Int32) dX11_cavern_53 ic_1 ?_
        refine j_icmp_ne hK 65 dX11_cavern_54 (by decide) (fun hc => ?_) (fun hc => ?_)
        · replace hf := if_2 hc hf
          refine j_aload_n hK dX11_cavern_65 0 rfl rfl ?_
          refine j_iload_n hK dX11_cavern_66 1 rfl rfl ?_
          obtain ⟨r14, S15, h16, hf⟩ := bd_J hf
          refine k_callVi hK (c_X11_farthest h16) dX11_cavern_67 zclX11 zo_122 ml_X11_311 mi_X11_farthest mx_X11_farthest in_X11 mc_X11_farthest hy_X11_farthest ⟨by decide, by decide⟩ rfl (Nat.le_of_ble_eq_true rfl) ?_
          exact j_iret hK dX11_cavern_70 rfl (rt_I hA hf)
        · replace hf := if_1 hc hf
          refine j_aload_n hK dX11_cavern_57 0 rfl rfl ?_
          refine j_iload_n hK dX11_cavern_58 1 rfl rfl ?_
          obtain ⟨r17, S18, h19, hf⟩ := bd_J hf
          refine k_callVi hK (c_X11_joinedTo h19) dX11_cavern_59 zclX11 zo_122 ml_X11_308 mi_X11_joinedTo mx_X11_joinedTo in_X11 mc_X11_joinedTo hy_X11_joinedTo ⟨by decide, by decide⟩ rfl (Nat.le_of_ble_eq_true rfl) ?_
          refine j_goto hK 70 dX11_cavern_62 (by decide) ?_
          exact j_iret hK dX11_cavern_70 rfl (rt_I hA hf)
      · replace hf := if_1 hc hf
        refine j_aload_n hK dX11_cavern_44 0 rfl rfl ?_
        refine j_iload_n hK dX11_cavern_45 1 rfl rfl ?_
        obtain ⟨r20, S21, h22, hf⟩ := bd_J hf
        refine k_callVi hK (c_X11_openOf h22) dX11_cavern_46 zclX11 zo_122 ml_X11_305 mi_X11_openOf mx_X11_openOf in_X11 mc_X11_openOf hy_X11_openOf ⟨by decide, by decide⟩ rfl (Nat.le_of_ble_eq_true rfl) ?_
        refine j_goto hK 70 dX11_cavern_49 (by decide) ?_
        exact j_iret hK dX11_cavern_70 rfl (rt_I hA hf)
    · replace hf := if_1 hc hf
      refine j_sub [0] rfl ?_
      exact t_X11_cavern_24 hK hA  hf
def f_X11_sheet_112 (x1 : Int32) (x2 : Int32) (x4 : Int32) (x5 : Int32) (x6 : Int32) (s1 : Int32) (s2 : Int32) (k e : Int32 × Int32 → St → Option (Int32 × St)) (S : St) : Option (Int32 × St) := if inb s1 39 then lt (sI S 126 s1.toNatClampNeg s2) (fun S2 => lt (x5 + x4) (fun y3 => k (y3, (x6 + (1 : Int32))) S2)) else none
theorem t_X11_sheet_112 {K : CT} (hK : KO K cX11_sheet RX11 8 2 (some .int)) {r : Int32} {S' : St} (hA : zans K (some (.int r), S')) {x1 : Int32} {x2 : Int32} {x4 : Int32} {x5 : Int32} {x6 : Int32} {s1 : Int32} {s2 : Int32} {k e : Int32 × Int32 → St → Option (Int32 × St)} (hk : ∀ (v : Int32 × Int32) (S : St), k v S = some (r, S') → J K 43 [(0, .ref 122), (1, .int x1), (2, .int x2), (4, .int x4), (5, .int v.1), (6, .int v.2)] [] S) (he : ∀ (v : Int32 × Int32) (S : St), e v S = some (r, S') → J K 126 [(0, .ref 122), (1, .int x1)] [] S) {S : St} (hf : f_X11_sheet_112 x1 x2 x4 x5 x6 s1 s2 k e S = some (r, S')) : J K 112 [(0, .ref 122), (1, .int x1), (2, .int x2), (4, .int x4), (5, .int x5), (6, .int x6)] [.int s2, .int s1, .ref 126] S := by
  unfold f_X11_sheet_112 at hf
  obtain ⟨hi1, hf⟩ := gd hf
  refine k_iast hK dX11_sheet_112 zb_126 hi1 rfl ?_
  refine lt_S hf (fun S2 hf => ?_)
  refine j_iload hK dX11_sheet_113 4 rfl ?_
  refine j_iload hK dX11_sheet_115 3 rfl ?_
  refine j_iadd hK dX11_sheet_117 ?_
  refine lt_I hf (fun y3 hf => ?_)
  refine j_istore hK (L' := [(5, .int y3), (0, .ref 122), (1, .int x1), (2, .int x2), (4, .int x4), (6, .int x6)]) dX11_sheet_118 (by decide) rfl ?_
  refine j_iinc hK (L' := [(6, .int (x6 + (1 : Int32))), (5, .int y3), (0, .ref 122), (1, .int x1), (2, .int x2), (4, .int x4)]) dX11_sheet_120 5 rfl (congrArg (fun y => x6 + y) ic_1) (by decide) rfl ?_
  refine j_goto hK 43 dX11_sheet_123 (by decide) ?_
  refine j_sub [2, 3, 4, 5, 1, 0] rfl ?_
  exact hk _ _ hf
def f_X11_sheet_97 (x1 : Int32) (x2 : Int32) (x4 : Int32) (x5 : Int32) (x6 : Int32) (s1 : Int32) (k e : Int32 × Int32 → St → Option (Int32 × St)) (S : St) : Option (Int32 × St) := f_X11_sheet_112 x1 x2 x4 x5 x6 s1 (0 : Int32) k e S
theorem t_X11_sheet_97 {K : CT} (hK : KO K cX11_sheet RX11 8 2 (some .int)) {r : Int32} {S' : St} (hA : zans K (some (.int r), S')) {x1 : Int32} {x2 : Int32} {x4 : Int32} {x5 : Int32} {x6 : Int32} {s1 : Int32} {k e : Int32 × Int32 → St → Option (Int32 × St)} (hk : ∀ (v : Int32 × Int32) (S : St), k v S = some (r, S') → J K 43 [(0, .ref 122), (1, .int x1), (2, .int x2), (4, .int x4), (5, .int v.1), (6, .int v.2)] [] S) (he : ∀ (v : Int32 × Int32) (S : St), e v S = some (r, S') → J K 126 [(0, .ref 122), (1, .int x1)] [] S) {S : St} (hf : f_X11_sheet_97 x1 x2 x4 x5 x6 s1 k e S = some (r, S')) : J K 97 [(0, .ref 122), (1, .int x1), (2, .int x2), (4, .int x4), (5, .int x5), (6, .int x6)] [.int s1, .ref 126] S := by
  unfold f_X11_sheet_97 at hf
  refine j_iconst hK (0 : Int32) dX11_sheet_97 ic_0 ?_
  refine j_goto hK 112 dX11_sheet_98 (by decide) ?_
  exact t_X11_sheet_112 hK hA hk he hf
def f_X11_sheet_75 (x1 : Int32) (x2 : Int32) (x4 : Int32) (x5 : Int32) (x6 : Int32) (s0 : Int32) (k e : Int32 × Int32 → St → Option (Int32 × St)) (S : St) : Option (Int32 × St) := (if x1 = (3 : Int32) then f_X11_sheet_97 x1 x2 x4 x5 x6 ((24 : Int32) + x6) k e S else (if x6 < x2 then f_X11_sheet_112 x1 x2 x4 x5 x6 ((24 : Int32) + x6) (mxI (0 : Int32) (mnI (9 : Int32) s0)) k e S else f_X11_sheet_97 x1 x2 x4 x5 x6 ((24 : Int32) + x6) k e S))
theorem t_X11_sheet_75 {K : CT} (hK : KO K cX11_sheet RX11 8 2 (some .int)) {r : Int32} {S' : St} (hA : zans K (some (.int r), S')) {x1 : Int32} {x2 : Int32} {x4 : Int32} {x5 : Int32} {x6 : Int32} {s0 : Int32} {k e : Int32 × Int32 → St → Option (Int32 × St)} (hk : ∀ (v : Int32 × Int32) (S : St), k v S = some (r, S') → J K 43 [(0, .ref 122), (1, .int x1), (2, .int x2), (4, .int x4), (5, .int v.1), (6, .int v.2)] [] S) (he : ∀ (v : Int32 × Int32) (S : St), e v S = some (r, S') → J K 126 [(0, .ref 122), (1, .int x1)] [] S) {S : St} (hf : f_X11_sheet_75 x1 x2 x4 x5 x6 s0 k e S = some (r, S')) : J K 75 [(0, .ref 122), (1, .int x1), (2, .int x2), (4, .int x4), (5, .int x5), (6, .int x6)] [.int s0] S := by
  unfold f_X11_sheet_75 at hf
  refine j_istore hK (L' := [(7, .int s0), (0, .ref 122), (1, .int x1), (2, .int x2), (4, .int x4), (5, .int x5), (6, .int x6)]) dX11_sheet_75 (by decide) rfl ?_
  refine j_aload_n hK dX11_sheet_77 1 rfl rfl ?_
  refine j_getR hK fl_X11_31 dX11_sheet_78 zo_122 zf_11_7 zr_122_7 ?_
  refine j_bipush hK (24 : Int32) dX11_sheet_81 bi_24 ?_
  refine j_iload hK dX11_sheet_83 6 rfl ?_
  refine j_iadd hK dX11_sheet_85 ?_
  refine j_iload_n hK dX11_sheet_86 2 rfl rfl ?_
  refine j_iconst hK (3 : Int32) dX11_sheet_87 ic_3 ?_
  refine j_pc (pc' := 88) rfl ?_
  refine j_icmp_eq hK 97 dX11_sheet_88 (by decide) (fun hc => ?_) (fun hc => ?_)
  · replace hf := if_1 hc hf
    refine j_sub [1, 2, 3, 4, 5, 6] rfl ?_
    exact t_X11_sheet_97 hK hA hk he hf
  · replace hf := if_2 hc hf
    refine j_iload hK dX11_sheet_91 6 rfl ?_
    refine j_iload_n hK dX11_sheet_93 3 rfl rfl ?_
    refine j_icmp_lt hK 101 dX11_sheet_94 (by decide) (fun hc => ?_) (fun hc => ?_)
    · replace hf := if_1 hc hf
      refine j_iconst hK (0 : Int32) dX11_sheet_101 ic_0 ?_
      refine j_bipush hK (9 : Int32) dX11_sheet_102 bi_9 ?_
      refine j_iload hK dX11_sheet_104 0 rfl ?_
      refine j_min hK ml_X11_146 dX11_sheet_106 (by decide) (Nat.le_of_ble_eq_true rfl) ?_
      refine j_max hK ml_X11_297 dX11_sheet_109 (by decide) (Nat.le_of_ble_eq_true rfl) ?_
      refine j_sub [1, 2, 3, 4, 5, 6] rfl ?_
      exact t_X11_sheet_112 hK hA hk he hf
    · replace hf := if_2 hc hf
      refine j_sub [1, 2, 3, 4, 5, 6] rfl ?_
      exact t_X11_sheet_97 hK hA hk he hf
def f_X11_sheet_43b (x1 : Int32) (x2 : Int32) (x4 : Int32) (e : Int32 × Int32 → St → Option (Int32 × St)) (k : Int32 × Int32 → St → Option (Int32 × St)) (v : Int32 × Int32) (S : St) : Option (Int32 × St) := (if (gI S 122 3) ≤ v.2 then e (v.1, v.2) S else (if x1 = 0 then f_X11_sheet_75 x1 x2 x4 v.1 v.2 (v.1).toInt8.toInt32 k e S else (if x1 = (1 : Int32) then f_X11_sheet_75 x1 x2 x4 v.1 v.2 (v.1).toInt16.toInt32 k e S else f_X11_sheet_75 x1 x2 x4 v.1 v.2 v.1 k e S)))
theorem t_X11_sheet_43 {K : CT} (hK : KO K cX11_sheet RX11 8 2 (some .int)) {r : Int32} {S' : St} (hA : zans K (some (.int r), S')) {x1 : Int32} {x2 : Int32} {x4 : Int32} {e : Int32 × Int32 → St → Option (Int32 × St)} (he : ∀ (v : Int32 × Int32) (S : St), e v S = some (r, S') → J K 126 [(0, .ref 122), (1, .int x1)] [] S) : ∀ (n : Nat) (v : Int32 × Int32) (S : St), lp (f_X11_sheet_43b x1 x2 x4 e) n v S = some (r, S') → J K 43 [(0, .ref 122), (1, .int x1), (2, .int x2), (4, .int x4), (5, .int v.1), (6, .int v.2)] [] S :=
  lp_J (P := fun (v : Int32 × Int32) (S : St) => J K 43 [(0, .ref 122), (1, .int x1), (2, .int x2), (4, .int x4), (5, .int v.1), (6, .int v.2)] [] S) (fun k hk v S hf => by
    unfold f_X11_sheet_43b at hf
    refine j_iload hK dX11_sheet_43 5 rfl ?_
    refine j_aload_n hK dX11_sheet_45 0 rfl rfl ?_
    refine j_getI hK fl_X11_128 dX11_sheet_46 zo_122 zf_11_3 ?_
    refine j_icmp_ge hK 126 dX11_sheet_49 (by decide) (fun hc => ?_) (fun hc => ?_)
    · replace hf := if_1 hc hf
      refine j_sub [0, 1] rfl ?_
      exact he _ _ hf
    · replace hf := if_2 hc hf
      refine j_iload_n hK dX11_sheet_52 1 rfl rfl ?_
      refine j_if_ne hK 62 dX11_sheet_53 (by decide) (fun hc => ?_) (fun hc => ?_)
      · replace hf := if_2 hc hf
        refine j_iload_n hK dX11_sheet_62 1 rfl rfl ?_
        refine j_iconst hK (1 : Int32) dX11_sheet_63 ic_1 ?_
        refine j_icmp_ne hK 73 dX11_sheet_64 (by decide) (fun hc => ?_) (fun hc => ?_)
        · replace hf := if_2 hc hf
          refine j_iload hK dX11_sheet_73 4 rfl ?_
          exact t_X11_sheet_75 hK hA hk he hf
        · replace hf := if_1 hc hf
          refine j_iload hK dX11_sheet_67 4 rfl ?_
          refine j_i2s hK dX11_sheet_69 ?_
          refine j_goto hK 75 dX11_sheet_70 (by decide) ?_
          exact t_X11_sheet_75 hK hA hk he hf
      · replace hf := if_1 hc hf
        refine j_iload hK dX11_sheet_56 4 rfl ?_
        refine j_i2b hK dX11_sheet_58 ?_
        refine j_goto hK 75 dX11_sheet_59 (by decide) ?_
        exact t_X11_sheet_75 hK hA hk he hf)
def f_X11_sheet_37 (x1 : Int32) (x2 : Int32) (x3 : Int32) (x4 : Int32) (S : St) : Option (Int32 × St) := lp (f_X11_sheet_43b x1 x2 x4 (fun v4 S5 => (if x1 = (3 : Int32) then some ((-3 : Int32), S5) else bd (f_X11_sumOf 126 (24 : Int32) S5) (fun r6 S7 => some (r6, S7))))) FU (x3, (0 : Int32)) S
theorem t_X11_sheet_37 {K : CT} (hK : KO K cX11_sheet RX11 8 2 (some .int)) {r : Int32} {S' : St} (hA : zans K (some (.int r), S')) {x1 : Int32} {x2 : Int32} {x3 : Int32} {x4 : Int32} {S : St} (hf : f_X11_sheet_37 x1 x2 x3 x4 S = some (r, S')) : J K 37 [(0, .ref 122), (1, .int x1), (2, .int x2), (3, .int x3), (4, .int x4)] [] S := by
  unfold f_X11_sheet_37 at hf
  refine j_iload_n hK dX11_sheet_37 3 rfl rfl ?_
  refine j_istore hK (L' := [(5, .int x3), (0, .ref 122), (1, .int x1), (2, .int x2), (3, .int x3), (4, .int x4)]) dX11_sheet_38 (by decide) rfl ?_
  refine j_iconst hK (0 : Int32) dX11_sheet_40 ic_0 ?_
  refine j_istore hK (L' := [(6, .int (0 : Int32)), (5, .int x3), (0, .ref 122), (1, .int x1), (2, .int x2), (3, .int x3), (4, .int x4)]) dX11_sheet_41 (by decide) rfl ?_
  refine j_sub [2, 3, 4, 6, 1, 0] rfl ?_
  refine t_X11_sheet_43 hK hA  (fun v4 S5 hf => ?_) _ _ _ hf
  refine j_iload_n hK dX11_sheet_126 1 rfl rfl ?_
  refine j_iconst hK (3 : Int32) dX11_sheet_127 ic_3 ?_
  refine j_icmp_ne hK 136 dX11_sheet_128 (by decide) (fun hc => ?_) (fun hc => ?_)
  · replace hf := if_2 hc hf
    refine j_aload_n hK dX11_sheet_136 0 rfl rfl ?_
    refine j_aload_n hK dX11_sheet_137 0 rfl rfl ?_
    refine j_getR hK fl_X11_31 dX11_sheet_138 zo_122 zf_11_7 zr_122_7 ?_
    refine j_bipush hK (24 : Int32) dX11_sheet_141 bi_24 ?_
    obtain ⟨r6, S7, h8, hf⟩ := bd_J hf
    refine k_callVi hK (c_X11_sumOf zb_126 h8) dX11_sheet_143 zclX11 zo_122 ml_X11_316 mi_X11_sumOf mx_X11_sumOf in_X11 mc_X11_sumOf hy_X11_sumOf ⟨by decide, by decide⟩ rfl (Nat.le_of_ble_eq_true rfl) ?_
    exact j_iret hK dX11_sheet_146 rfl (rt_I hA hf)
  · replace hf := if_1 hc hf
    refine j_bipush hK (-3 : Int32) dX11_sheet_131 bi_m3 ?_
    refine j_goto hK 146 dX11_sheet_133 (by decide) ?_
    exact j_iret hK dX11_sheet_146 rfl (rt_I hA hf)
def f_X11_sheet (p1 : Int32) (p2 : Int32) (p3 : Int32) (p4 : Int32) (S : St) : Option (Int32 × St) := lt (sI S 122 0 (0 : Int32)) (fun S9 => bd (f_X11_in p1.toInt64 (0 : Int64) (3 : Int64) S9) (fun r10 S11 => (if r10 = 0 then some ((-1 : Int32), S11) else (if p2 ≤ (12 : Int32) then (if p1 = (3 : Int32) then f_X11_sheet_37 p1 p2 p3 p4 S11 else (if 0 ≤ p2 then f_X11_sheet_37 p1 p2 p3 p4 S11 else some ((-2 : Int32), S11))) else some ((-1 : Int32), S11)))))
theorem c_X11_sheet {p1 : Int32} {p2 : Int32} {p3 : Int32} {p4 : Int32} {S : St} {r : Int32} {S' : St} (hf : f_X11_sheet p1 p2 p3 p4 S = some (r, S')) : zM yX11_sheet cX11_sheet 8 2 (some .int) [.ref 122, .int p1, .int p2, .int p3, .int p4] S (some (.int r)) S' := by
  refine zM_of (zpl (by decide)) (Nat.le_of_ble_eq_true rfl) rfl (fun K hK hA => ?_)
  unfold f_X11_sheet at hf
  refine j_aload_n hK dX11_sheet_0 0 rfl rfl ?_
  refine j_iconst hK (0 : Int32) dX11_sheet_1 ic_0 ?_
  refine j_putI hK fl_X11_3 dX11_sheet_2 zo_122 zf_11_0 ?_
  refine lt_S hf (fun S9 hf => ?_)
  refine j_iload_n hK dX11_sheet_5 1 rfl rfl ?_
  refine j_i2l hK dX11_sheet_6 ?_
  refine j_lconst hK (0 : Int64) dX11_sheet_7 lc_0 ?_
  refine j_ldc2 hK (v := (3 : Int64)) cl_X11_314 dX11_sheet_8 ?_
  obtain ⟨r10, S11, h12, hf⟩ := bd_J hf
  refine k_callSi hK (c_X11_in h12) dX11_sheet_11 ml_X11_131 ms_X11_in in_X11 mc_X11_in hy_X11_in ⟨by decide, by decide⟩ rfl (Nat.le_of_ble_eq_true rfl) ?_
  refine j_pc (pc' := 14) rfl ?_
  refine j_if_eq hK 23 dX11_sheet_14 (by decide) (fun hc => ?_) (fun hc => ?_)
  · replace hf := if_1 hc hf
    refine j_iconst hK (-1 : Int32) dX11_sheet_23 ic_m1 ?_
    exact j_iret hK dX11_sheet_24 rfl (rt_I hA hf)
  · replace hf := if_2 hc hf
    refine j_iload_n hK dX11_sheet_17 2 rfl rfl ?_
    refine j_bipush hK (12 : Int32) dX11_sheet_18 bi_12 ?_
    refine j_icmp_le hK 25 dX11_sheet_20 (by decide) (fun hc => ?_) (fun hc => ?_)
    · replace hf := if_1 hc hf
      refine j_iload_n hK dX11_sheet_25 1 rfl rfl ?_
      refine j_iconst hK (3 : Int32) dX11_sheet_26 ic_3 ?_
      refine j_icmp_eq hK 37 dX11_sheet_27 (by decide) (fun hc => ?_) (fun hc => ?_)
      · replace hf := if_1 hc hf
        exact t_X11_sheet_37 hK hA  hf
      · replace hf := if_2 hc hf
        refine j_iload_n hK dX11_sheet_30 2 rfl rfl ?_
        refine j_if_ge hK 37 dX11_sheet_31 (by decide) (fun hc => ?_) (fun hc => ?_)
        · replace hf := if_1 hc hf
          exact t_X11_sheet_37 hK hA  hf
        · replace hf := if_2 hc hf
          refine j_bipush hK (-2 : Int32) dX11_sheet_34 bi_m2 ?_
          exact j_iret hK dX11_sheet_36 rfl (rt_I hA hf)
    · replace hf := if_2 hc hf
      refine j_iconst hK (-1 : Int32) dX11_sheet_23 ic_m1 ?_
      exact j_iret hK dX11_sheet_24 rfl (rt_I hA hf)
def f_X11_putsBy_2b (e : Int32 → St → Option (Unit × St)) (k : Int32 → St → Option (Unit × St)) (v : Int32) (S : St) : Option (Unit × St) := (if (39 : Int32) ≤ v then e v S else if inb v 39 then if inb (((39 : Int32) * (gI S 122 28)) + v) 624 then lt (sI S 137 (((39 : Int32) * (gI S 122 28)) + v).toNatClampNeg (gI S 126 v.toNatClampNeg)) (fun S3 => k (v + (1 : Int32)) S3) else none else none)
theorem t_X11_putsBy_2 {K : CT} (hK : KO K cX11_putsBy RX11 2 1 none) {r : Unit} {S' : St} (hA : zans K (none, S')) {e : Int32 → St → Option (Unit × St)} (he : ∀ (v : Int32) (S : St), e v S = some (r, S') → J K 34 [] [] S) : ∀ (n : Nat) (v : Int32) (S : St), lp (f_X11_putsBy_2b  e) n v S = some (r, S') → J K 2 [(0, .ref 122), (1, .int v)] [] S :=
  lp_J (P := fun (v : Int32) (S : St) => J K 2 [(0, .ref 122), (1, .int v)] [] S) (fun k hk v S hf => by
    unfold f_X11_putsBy_2b at hf
    refine j_iload_n hK dX11_putsBy_2 1 rfl rfl ?_
    refine j_bipush hK (39 : Int32) dX11_putsBy_3 bi_39 ?_
    refine j_icmp_ge hK 34 dX11_putsBy_5 (by decide) (fun hc => ?_) (fun hc => ?_)
    · replace hf := if_1 hc hf
      refine j_sub [] rfl ?_
      exact he _ _ hf
    · replace hf := if_2 hc hf
      refine j_aload_n hK dX11_putsBy_8 0 rfl rfl ?_
      refine j_getR hK fl_X11_65 dX11_putsBy_9 zo_122 zf_11_29 zr_122_29 ?_
      refine j_bipush hK (39 : Int32) dX11_putsBy_12 bi_39 ?_
      refine j_aload_n hK dX11_putsBy_14 0 rfl rfl ?_
      refine j_getI hK fl_X11_206 dX11_putsBy_15 zo_122 zf_11_28 ?_
      refine j_imul hK dX11_putsBy_18 ?_
      refine j_iload_n hK dX11_putsBy_19 1 rfl rfl ?_
      refine j_pc (pc' := 20) rfl ?_
      refine j_iadd hK dX11_putsBy_20 ?_
      refine j_aload_n hK dX11_putsBy_21 0 rfl rfl ?_
      refine j_getR hK fl_X11_31 dX11_putsBy_22 zo_122 zf_11_7 zr_122_7 ?_
      refine j_iload_n hK dX11_putsBy_25 1 rfl rfl ?_
      obtain ⟨hi1, hf⟩ := gd hf
      refine k_iald hK dX11_putsBy_26 zb_126 hi1 rfl ?_
      obtain ⟨hi2, hf⟩ := gd hf
      refine k_iast hK dX11_putsBy_27 zb_137 hi2 rfl ?_
      refine lt_S hf (fun S3 hf => ?_)
      refine j_iinc hK (L' := [(1, .int (v + (1 : Int32))), (0, .ref 122)]) dX11_putsBy_28 1 rfl (congrArg (fun y => v + y) ic_1) (by decide) rfl ?_
      refine j_goto hK 2 dX11_putsBy_31 (by decide) ?_
      refine j_sub [1, 0] rfl ?_
      exact hk _ _ hf)
def f_X11_putsBy (S : St) : Option (Unit × St) := lp (f_X11_putsBy_2b  (fun v4 S5 => some ((), S5))) FU (0 : Int32) S
theorem c_X11_putsBy {S : St} {r : Unit} {S' : St} (hf : f_X11_putsBy S = some (r, S')) : zM yX11_putsBy cX11_putsBy 2 1 none [.ref 122] S (none) S' := by
  refine zM_of (zpl (by decide)) (Nat.le_of_ble_eq_true rfl) rfl (fun K hK hA => ?_)
  unfold f_X11_putsBy at hf
  refine j_iconst hK (0 : Int32) dX11_putsBy_0 ic_0 ?_
  refine j_istore_n hK (L' := [(1, .int (0 : Int32)), (0, .ref 122)]) dX11_putsBy_1 rfl (by decide) rfl ?_
  refine j_sub [1, 0] rfl ?_
  refine t_X11_putsBy_2 hK hA  (fun v4 S5 hf => ?_) _ _ _ hf
  exact j_vret hK dX11_putsBy_34 rfl (rt_V hA hf)
def f_X11_adds_21b (x1 : Int32) (e : Int32 → St → Option (Int32 × St)) (k : Int32 → St → Option (Int32 × St)) (v : Int32) (S : St) : Option (Int32 × St) := (if (585 : Int32) ≤ v then e v S else if inb (v + (39 : Int32)) 624 then if inb v 624 then lt (sI S 137 v.toNatClampNeg (gI S 137 (v + (39 : Int32)).toNatClampNeg)) (fun S3 => k (v + (1 : Int32)) S3) else none else none)
theorem t_X11_adds_21 {K : CT} (hK : KO K cX11_adds RX11 3 1 (some .int)) {r : Int32} {S' : St} (hA : zans K (some (.int r), S')) {x1 : Int32} {e : Int32 → St → Option (Int32 × St)} (he : ∀ (v : Int32) (S : St), e v S = some (r, S') → J K 49 [(0, .ref 122), (1, .int x1)] [] S) : ∀ (n : Nat) (v : Int32) (S : St), lp (f_X11_adds_21b x1 e) n v S = some (r, S') → J K 21 [(0, .ref 122), (1, .int x1), (2, .int v)] [] S :=
  lp_J (P := fun (v : Int32) (S : St) => J K 21 [(0, .ref 122), (1, .int x1), (2, .int v)] [] S) (fun k hk v S hf => by
    unfold f_X11_adds_21b at hf
    refine j_iload_n hK dX11_adds_21 2 rfl rfl ?_
    refine j_sipush hK (585 : Int32) dX11_adds_22 si_585 ?_
    refine j_icmp_ge hK 49 dX11_adds_25 (by decide) (fun hc => ?_) (fun hc => ?_)
    · replace hf := if_1 hc hf
      refine j_sub [0, 1] rfl ?_
      exact he _ _ hf
    · replace hf := if_2 hc hf
      refine j_aload_n hK dX11_adds_28 0 rfl rfl ?_
      refine j_getR hK fl_X11_65 dX11_adds_29 zo_122 zf_11_29 zr_122_29 ?_
      refine j_iload_n hK dX11_adds_32 2 rfl rfl ?_
      refine j_aload_n hK dX11_adds_33 0 rfl rfl ?_
      refine j_getR hK fl_X11_65 dX11_adds_34 zo_122 zf_11_29 zr_122_29 ?_
      refine j_iload_n hK dX11_adds_37 2 rfl rfl ?_
      refine j_bipush hK (39 : Int32) dX11_adds_38 bi_39 ?_
      refine j_pc (pc' := 40) rfl ?_
      refine j_iadd hK dX11_adds_40 ?_
      obtain ⟨hi1, hf⟩ := gd hf
      refine k_iald hK dX11_adds_41 zb_137 hi1 rfl ?_
      obtain ⟨hi2, hf⟩ := gd hf
      refine k_iast hK dX11_adds_42 zb_137 hi2 rfl ?_
      refine lt_S hf (fun S3 hf => ?_)
      refine j_iinc hK (L' := [(2, .int (v + (1 : Int32))), (0, .ref 122), (1, .int x1)]) dX11_adds_43 2 rfl (congrArg (fun y => v + y) ic_1) (by decide) rfl ?_
      refine j_goto hK 21 dX11_adds_46 (by decide) ?_
      refine j_sub [1, 2, 0] rfl ?_
      exact hk _ _ hf)
def f_X11_adds (p1 : Int32) (S : St) : Option (Int32 × St) := lt (sI S 122 28 ((gI S 122 28) + (1 : Int32))) (fun S4 => (if (gI S4 122 28) ≤ (15 : Int32) then some (p1, S4) else lp (f_X11_adds_21b p1 (fun v5 S6 => lt (sI S6 122 28 ((gI S6 122 28) - (1 : Int32))) (fun S7 => some (p1, S7)))) FU (0 : Int32) S4))
theorem c_X11_adds {p1 : Int32} {S : St} {r : Int32} {S' : St} (hf : f_X11_adds p1 S = some (r, S')) : zM yX11_adds cX11_adds 3 1 (some .int) [.ref 122, .int p1] S (some (.int r)) S' := by
  refine zM_of (zpl (by decide)) (Nat.le_of_ble_eq_true rfl) rfl (fun K hK hA => ?_)
  unfold f_X11_adds at hf
  refine j_aload_n hK dX11_adds_0 0 rfl rfl ?_
  refine j_dup hK dX11_adds_1 rfl ?_
  refine j_getI hK fl_X11_206 dX11_adds_2 zo_122 zf_11_28 ?_
  refine j_iconst hK (1 : Int32) dX11_adds_5 ic_1 ?_
  refine j_iadd hK dX11_adds_6 ?_
  refine j_putI hK fl_X11_206 dX11_adds_7 zo_122 zf_11_28 ?_
  refine lt_S hf (fun S4 hf => ?_)
  refine j_aload_n hK dX11_adds_10 0 rfl rfl ?_
  refine j_getI hK fl_X11_206 dX11_adds_11 zo_122 zf_11_28 ?_
  refine j_pc (pc' := 14) rfl ?_
  refine j_bipush hK (15 : Int32) dX11_adds_14 bi_15 ?_
  refine j_icmp_le hK 59 dX11_adds_16 (by decide) (fun hc => ?_) (fun hc => ?_)
  · replace hf := if_1 hc hf
    refine j_iload_n hK dX11_adds_59 1 rfl rfl ?_
    exact j_iret hK dX11_adds_60 rfl (rt_I hA hf)
  · replace hf := if_2 hc hf
    refine j_iconst hK (0 : Int32) dX11_adds_19 ic_0 ?_
    refine j_istore_n hK (L' := [(2, .int (0 : Int32)), (0, .ref 122), (1, .int p1)]) dX11_adds_20 rfl (by decide) rfl ?_
    refine j_sub [1, 2, 0] rfl ?_
    refine t_X11_adds_21 hK hA  (fun v5 S6 hf => ?_) _ _ _ hf
    refine j_aload_n hK dX11_adds_49 0 rfl rfl ?_
    refine j_dup hK dX11_adds_50 rfl ?_
    refine j_getI hK fl_X11_206 dX11_adds_51 zo_122 zf_11_28 ?_
    refine j_iconst hK (1 : Int32) dX11_adds_54 ic_1 ?_
    refine j_isub hK dX11_adds_55 ?_
    refine j_putI hK fl_X11_206 dX11_adds_56 zo_122 zf_11_28 ?_
    refine lt_S hf (fun S7 hf => ?_)
    refine j_iload_n hK dX11_adds_59 1 rfl rfl ?_
    refine j_pc (pc' := 60) rfl ?_
    exact j_iret hK dX11_adds_60 rfl (rt_I hA hf)
def f_X11_counted (p1 : Int32) (S : St) : Option (Int32 × St) := (if 0 ≤ p1 then bd (f_X11_adds p1 S) (fun r1 S2 => some (r1, S2)) else some (p1, S))
theorem c_X11_counted {p1 : Int32} {S : St} {r : Int32} {S' : St} (hf : f_X11_counted p1 S = some (r, S')) : zM yX11_counted cX11_counted 2 2 (some .int) [.ref 122, .int p1] S (some (.int r)) S' := by
  refine zM_of (zpl (by decide)) (Nat.le_of_ble_eq_true rfl) rfl (fun K hK hA => ?_)
  unfold f_X11_counted at hf
  refine j_iload_n hK dX11_counted_0 1 rfl rfl ?_
  refine j_if_ge hK 8 dX11_counted_1 (by decide) (fun hc => ?_) (fun hc => ?_)
  · replace hf := if_1 hc hf
    refine j_aload_n hK dX11_counted_8 0 rfl rfl ?_
    refine j_iload_n hK dX11_counted_9 1 rfl rfl ?_
    obtain ⟨r1, S2, h3, hf⟩ := bd_J hf
    refine k_callVi hK (c_X11_adds h3) dX11_counted_10 zclX11 zo_122 ml_X11_320 mi_X11_adds mx_X11_adds in_X11 mc_X11_adds hy_X11_adds ⟨by decide, by decide⟩ rfl (Nat.le_of_ble_eq_true rfl) ?_
    exact j_iret hK dX11_counted_13 rfl (rt_I hA hf)
  · replace hf := if_2 hc hf
    refine j_iload_n hK dX11_counted_4 1 rfl rfl ?_
    refine j_goto hK 13 dX11_counted_5 (by decide) ?_
    exact j_iret hK dX11_counted_13 rfl (rt_I hA hf)
def f_X11_undo_26b (e : Int32 → St → Option (Int32 × St)) (k : Int32 → St → Option (Int32 × St)) (v : Int32) (S : St) : Option (Int32 × St) := (if (39 : Int32) ≤ v then e v S else if inb (((39 : Int32) * (gI S 122 28)) + v) 624 then if inb v 39 then lt (sI S 126 v.toNatClampNeg (gI S 137 (((39 : Int32) * (gI S 122 28)) + v).toNatClampNeg)) (fun S3 => k (v + (1 : Int32)) S3) else none else none)
theorem t_X11_undo_26 {K : CT} (hK : KO K cX11_undo RX11 2 1 (some .int)) {r : Int32} {S' : St} (hA : zans K (some (.int r), S')) {e : Int32 → St → Option (Int32 × St)} (he : ∀ (v : Int32) (S : St), e v S = some (r, S') → J K 58 [(0, .ref 122)] [] S) : ∀ (n : Nat) (v : Int32) (S : St), lp (f_X11_undo_26b  e) n v S = some (r, S') → J K 26 [(0, .ref 122), (1, .int v)] [] S :=
  lp_J (P := fun (v : Int32) (S : St) => J K 26 [(0, .ref 122), (1, .int v)] [] S) (fun k hk v S hf => by
    unfold f_X11_undo_26b at hf
    refine j_iload_n hK dX11_undo_26 1 rfl rfl ?_
    refine j_bipush hK (39 : Int32) dX11_undo_27 bi_39 ?_
    refine j_icmp_ge hK 58 dX11_undo_29 (by decide) (fun hc => ?_) (fun hc => ?_)
    · replace hf := if_1 hc hf
      refine j_sub [0] rfl ?_
      exact he _ _ hf
    · replace hf := if_2 hc hf
      refine j_aload_n hK dX11_undo_32 0 rfl rfl ?_
      refine j_getR hK fl_X11_31 dX11_undo_33 zo_122 zf_11_7 zr_122_7 ?_
      refine j_iload_n hK dX11_undo_36 1 rfl rfl ?_
      refine j_aload_n hK dX11_undo_37 0 rfl rfl ?_
      refine j_getR hK fl_X11_65 dX11_undo_38 zo_122 zf_11_29 zr_122_29 ?_
      refine j_bipush hK (39 : Int32) dX11_undo_41 bi_39 ?_
      refine j_aload_n hK dX11_undo_43 0 rfl rfl ?_
      refine j_pc (pc' := 44) rfl ?_
      refine j_getI hK fl_X11_206 dX11_undo_44 zo_122 zf_11_28 ?_
      refine j_imul hK dX11_undo_47 ?_
      refine j_iload_n hK dX11_undo_48 1 rfl rfl ?_
      refine j_iadd hK dX11_undo_49 ?_
      obtain ⟨hi1, hf⟩ := gd hf
      refine k_iald hK dX11_undo_50 zb_137 hi1 rfl ?_
      obtain ⟨hi2, hf⟩ := gd hf
      refine k_iast hK dX11_undo_51 zb_126 hi2 rfl ?_
      refine lt_S hf (fun S3 hf => ?_)
      refine j_iinc hK (L' := [(1, .int (v + (1 : Int32))), (0, .ref 122)]) dX11_undo_52 1 rfl (congrArg (fun y => v + y) ic_1) (by decide) rfl ?_
      refine j_goto hK 26 dX11_undo_55 (by decide) ?_
      refine j_sub [1, 0] rfl ?_
      exact hk _ _ hf)
def f_X11_undo (S : St) : Option (Int32 × St) := lt (sI S 122 0 (0 : Int32)) (fun S4 => (if (gI S4 122 28) = 0 then some ((-1 : Int32), S4) else lt (sI S4 122 28 ((gI S4 122 28) - (1 : Int32))) (fun S5 => lp (f_X11_undo_26b  (fun v6 S7 => some ((gI S7 122 28), S7))) FU (0 : Int32) S5)))
theorem c_X11_undo {S : St} {r : Int32} {S' : St} (hf : f_X11_undo S = some (r, S')) : zM yX11_undo cX11_undo 2 1 (some .int) [.ref 122] S (some (.int r)) S' := by
  refine zM_of (zpl (by decide)) (Nat.le_of_ble_eq_true rfl) rfl (fun K hK hA => ?_)
  unfold f_X11_undo at hf
  refine j_aload_n hK dX11_undo_0 0 rfl rfl ?_
  refine j_iconst hK (0 : Int32) dX11_undo_1 ic_0 ?_
  refine j_putI hK fl_X11_3 dX11_undo_2 zo_122 zf_11_0 ?_
  refine lt_S hf (fun S4 hf => ?_)
  refine j_aload_n hK dX11_undo_5 0 rfl rfl ?_
  refine j_getI hK fl_X11_206 dX11_undo_6 zo_122 zf_11_28 ?_
  refine j_if_ne hK 14 dX11_undo_9 (by decide) (fun hc => ?_) (fun hc => ?_)
  · replace hf := if_2 hc hf
    refine j_aload_n hK dX11_undo_14 0 rfl rfl ?_
    refine j_dup hK dX11_undo_15 rfl ?_
    refine j_getI hK fl_X11_206 dX11_undo_16 zo_122 zf_11_28 ?_
    refine j_iconst hK (1 : Int32) dX11_undo_19 ic_1 ?_
    refine j_isub hK dX11_undo_20 ?_
    refine j_putI hK fl_X11_206 dX11_undo_21 zo_122 zf_11_28 ?_
    refine lt_S hf (fun S5 hf => ?_)
    refine j_iconst hK (0 : Int32) dX11_undo_24 ic_0 ?_
    refine j_pc (pc' := 25) rfl ?_
    refine j_istore_n hK (L' := [(1, .int (0 : Int32)), (0, .ref 122)]) dX11_undo_25 rfl (by decide) rfl ?_
    refine j_sub [1, 0] rfl ?_
    refine t_X11_undo_26 hK hA  (fun v6 S7 hf => ?_) _ _ _ hf
    refine j_aload_n hK dX11_undo_58 0 rfl rfl ?_
    refine j_getI hK fl_X11_206 dX11_undo_59 zo_122 zf_11_28 ?_
    exact j_iret hK dX11_undo_62 rfl (rt_I hA hf)
  · replace hf := if_1 hc hf
    refine j_iconst hK (-1 : Int32) dX11_undo_12 ic_m1 ?_
    exact j_iret hK dX11_undo_13 rfl (rt_I hA hf)
def f_X11_readsLetters_2b (e : Int32 → St → Option (Int32 × St)) (k : Int32 → St → Option (Int32 × St)) (v : Int32) (S : St) : Option (Int32 × St) := (if (6 : Int32) ≤ v then e v S else bd (f_X11_isLetter S) (fun r1 S2 => (if r1 = 0 then e v S2 else if inb (gI S2 122 11) 80 then if inb v 6 then lt (sI S2 138 v.toNatClampNeg ((gI S2 128 (gI S2 122 11).toNatClampNeg) - (97 : Int32))) (fun S6 => lt (sI S6 122 11 ((gI S6 122 11) + (1 : Int32))) (fun S7 => k (v + (1 : Int32)) S7)) else none else none)))
theorem t_X11_readsLetters_2 {K : CT} (hK : KO K cX11_readsLetters RX11 2 3 (some .int)) {r : Int32} {S' : St} (hA : zans K (some (.int r), S')) {e : Int32 → St → Option (Int32 × St)} (he : ∀ (v : Int32) (S : St), e v S = some (r, S') → J K 49 [(1, .int v)] [] S) : ∀ (n : Nat) (v : Int32) (S : St), lp (f_X11_readsLetters_2b  e) n v S = some (r, S') → J K 2 [(0, .ref 122), (1, .int v)] [] S :=
  lp_J (P := fun (v : Int32) (S : St) => J K 2 [(0, .ref 122), (1, .int v)] [] S) (fun k hk v S hf => by
    unfold f_X11_readsLetters_2b at hf
    refine j_iload_n hK dX11_readsLetters_2 1 rfl rfl ?_
    refine j_bipush hK (6 : Int32) dX11_readsLetters_3 bi_6 ?_
    refine j_icmp_ge hK 49 dX11_readsLetters_5 (by decide) (fun hc => ?_) (fun hc => ?_)
    · replace hf := if_1 hc hf
      refine j_sub [1] rfl ?_
      exact he _ _ hf
    · replace hf := if_2 hc hf
      refine j_aload_n hK dX11_readsLetters_8 0 rfl rfl ?_
      obtain ⟨r1, S2, h3, hf⟩ := bd_J hf
      refine k_callVi hK (c_X11_isLetter h3) dX11_readsLetters_9 zclX11 zo_122 ml_X11_323 mi_X11_isLetter mx_X11_isLetter in_X11 mc_X11_isLetter hy_X11_isLetter ⟨by decide, by decide⟩ rfl (Nat.le_of_ble_eq_true rfl) ?_
      refine j_if_eq hK 49 dX11_readsLetters_12 (by decide) (fun hc => ?_) (fun hc => ?_)
      · replace hf := if_1 hc hf
        refine j_sub [1] rfl ?_
        exact he _ _ hf
      · replace hf := if_2 hc hf
        refine j_aload_n hK dX11_readsLetters_15 0 rfl rfl ?_
        refine j_getR hK fl_X11_68 dX11_readsLetters_16 zo_122 zf_11_30 zr_122_30 ?_
        refine j_iload_n hK dX11_readsLetters_19 1 rfl rfl ?_
        refine j_aload_n hK dX11_readsLetters_20 0 rfl rfl ?_
        refine j_getR hK fl_X11_37 dX11_readsLetters_21 zo_122 zf_11_9 zr_122_9 ?_
        refine j_aload_n hK dX11_readsLetters_24 0 rfl rfl ?_
        refine j_getI hK fl_X11_140 dX11_readsLetters_25 zo_122 zf_11_11 ?_
        refine j_pc (pc' := 28) rfl ?_
        obtain ⟨hi4, hf⟩ := gd hf
        refine k_iald hK dX11_readsLetters_28 zb_128 hi4 rfl ?_
        refine j_bipush hK (97 : Int32) dX11_readsLetters_29 bi_97 ?_
        refine j_isub hK dX11_readsLetters_31 ?_
        obtain ⟨hi5, hf⟩ := gd hf
        refine k_iast hK dX11_readsLetters_32 zb_138 hi5 rfl ?_
        refine lt_S hf (fun S6 hf => ?_)
        refine j_aload_n hK dX11_readsLetters_33 0 rfl rfl ?_
        refine j_dup hK dX11_readsLetters_34 rfl ?_
        refine j_getI hK fl_X11_140 dX11_readsLetters_35 zo_122 zf_11_11 ?_
        refine j_iconst hK (1 : Int32) dX11_readsLetters_38 ic_1 ?_
        refine j_pc (pc' := 39) rfl ?_
        refine j_iadd hK dX11_readsLetters_39 ?_
        refine j_putI hK fl_X11_140 dX11_readsLetters_40 zo_122 zf_11_11 ?_
        refine lt_S hf (fun S7 hf => ?_)
        refine j_iinc hK (L' := [(1, .int (v + (1 : Int32))), (0, .ref 122)]) dX11_readsLetters_43 1 rfl (congrArg (fun y => v + y) ic_1) (by decide) rfl ?_
        refine j_goto hK 2 dX11_readsLetters_46 (by decide) ?_
        refine j_sub [1, 0] rfl ?_
        exact hk _ _ hf)
def f_X11_readsLetters (S : St) : Option (Int32 × St) := lp (f_X11_readsLetters_2b  (fun v8 S9 => some (v8, S9))) FU (0 : Int32) S
theorem c_X11_readsLetters {S : St} {r : Int32} {S' : St} (hf : f_X11_readsLetters S = some (r, S')) : zM yX11_readsLetters cX11_readsLetters 2 3 (some .int) [.ref 122] S (some (.int r)) S' := by
  refine zM_of (zpl (by decide)) (Nat.le_of_ble_eq_true rfl) rfl (fun K hK hA => ?_)
  unfold f_X11_readsLetters at hf
  refine j_iconst hK (0 : Int32) dX11_readsLetters_0 ic_0 ?_
  refine j_istore_n hK (L' := [(1, .int (0 : Int32)), (0, .ref 122)]) dX11_readsLetters_1 rfl (by decide) rfl ?_
  refine j_sub [1, 0] rfl ?_
  refine t_X11_readsLetters_2 hK hA  (fun v8 S9 hf => ?_) _ _ _ hf
  refine j_iload_n hK dX11_readsLetters_49 0 rfl rfl ?_
  exact j_iret hK dX11_readsLetters_50 rfl (rt_I hA hf)
def f_X11_readsCall_43 (S : St) : Option (Int32 × St) := some (((-1 : Int32) - (gI S 122 11)), S)
theorem t_X11_readsCall_43 {K : CT} (hK : KO K cX11_readsCall RX11 4 4 (some .int)) {r : Int32} {S' : St} (hA : zans K (some (.int r), S')) {S : St} (hf : f_X11_readsCall_43  S = some (r, S')) : J K 43 [(0, .ref 122)] [] S := by
  unfold f_X11_readsCall_43 at hf
  refine j_iconst hK (-1 : Int32) dX11_readsCall_43 ic_m1 ?_
  refine j_aload_n hK dX11_readsCall_44 0 rfl rfl ?_
  refine j_getI hK fl_X11_140 dX11_readsCall_45 zo_122 zf_11_11 ?_
  refine j_isub hK dX11_readsCall_48 ?_
  refine j_goto hK 53 dX11_readsCall_49 (by decide) ?_
  exact j_iret hK dX11_readsCall_53 rfl (rt_I hA hf)
def f_X11_readsCall (p1 : Int32) (p2 : Int32) (S : St) : Option (Int32 × St) := bd (f_X11_begins (80 : Int32) S) (fun r1 S2 => bd (f_X11_isEcho 126 p1 p2 S2) (fun r4 S5 => (if r4 = 0 then some ((-100 : Int32), S5) else bd (f_X11_readsLetters S5) (fun r7 S8 => (if r7 = 0 then f_X11_readsCall_43  S8 else (if (gI S8 122 12) ≤ (gI S8 122 11) then some (r7, S8) else f_X11_readsCall_43  S8))))))
theorem c_X11_readsCall {p1 : Int32} {p2 : Int32} {S : St} {r : Int32} {S' : St} (hf : f_X11_readsCall p1 p2 S = some (r, S')) : zM yX11_readsCall cX11_readsCall 4 4 (some .int) [.ref 122, .int p1, .int p2] S (some (.int r)) S' := by
  refine zM_of (zpl (by decide)) (Nat.le_of_ble_eq_true rfl) rfl (fun K hK hA => ?_)
  unfold f_X11_readsCall at hf
  refine j_aload_n hK dX11_readsCall_0 0 rfl rfl ?_
  refine j_bipush hK (80 : Int32) dX11_readsCall_1 bi_80 ?_
  obtain ⟨r1, S2, h3, hf⟩ := bd_J hf
  refine k_callVi hK (c_X11_begins h3) dX11_readsCall_3 zclX11 zo_122 ml_X11_192 mi_X11_begins mx_X11_begins in_X11 mc_X11_begins hy_X11_begins ⟨by decide, by decide⟩ rfl (Nat.le_of_ble_eq_true rfl) ?_
  refine j_pop hK dX11_readsCall_6 rfl ?_
  refine j_aload_n hK dX11_readsCall_7 0 rfl rfl ?_
  refine j_aload_n hK dX11_readsCall_8 0 rfl rfl ?_
  refine j_getR hK fl_X11_31 dX11_readsCall_9 zo_122 zf_11_7 zr_122_7 ?_
  refine j_iload_n hK dX11_readsCall_12 1 rfl rfl ?_
  refine j_pc (pc' := 13) rfl ?_
  refine j_iload_n hK dX11_readsCall_13 2 rfl rfl ?_
  obtain ⟨r4, S5, h6, hf⟩ := bd_J hf
  refine k_callVi hK (c_X11_isEcho zb_126 h6) dX11_readsCall_14 zclX11 zo_122 ml_X11_326 mi_X11_isEcho mx_X11_isEcho in_X11 mc_X11_isEcho hy_X11_isEcho ⟨by decide, by decide⟩ rfl (Nat.le_of_ble_eq_true rfl) ?_
  refine j_if_ne hK 23 dX11_readsCall_17 (by decide) (fun hc => ?_) (fun hc => ?_)
  · replace hf := if_2 hc hf
    refine j_aload_n hK dX11_readsCall_23 0 rfl rfl ?_
    obtain ⟨r7, S8, h9, hf⟩ := bd_J hf
    refine k_callVi hK (c_X11_readsLetters h9) dX11_readsCall_24 zclX11 zo_122 ml_X11_330 mi_X11_readsLetters mx_X11_readsLetters in_X11 mc_X11_readsLetters hy_X11_readsLetters ⟨by decide, by decide⟩ rfl (Nat.le_of_ble_eq_true rfl) ?_
    refine j_istore_n hK (L' := [(3, .int r7), (0, .ref 122), (1, .int p1), (2, .int p2)]) dX11_readsCall_27 rfl (by decide) rfl ?_
    refine j_iload_n hK dX11_readsCall_28 0 rfl rfl ?_
    refine j_if_eq hK 43 dX11_readsCall_29 (by decide) (fun hc => ?_) (fun hc => ?_)
    · replace hf := if_1 hc hf
      refine j_sub [1] rfl ?_
      exact t_X11_readsCall_43 hK hA  hf
    · replace hf := if_2 hc hf
      refine j_aload_n hK dX11_readsCall_32 1 rfl rfl ?_
      refine j_getI hK fl_X11_140 dX11_readsCall_33 zo_122 zf_11_11 ?_
      refine j_aload_n hK dX11_readsCall_36 1 rfl rfl ?_
      refine j_getI hK fl_X11_152 dX11_readsCall_37 zo_122 zf_11_12 ?_
      refine j_icmp_ge hK 52 dX11_readsCall_40 (by decide) (fun hc => ?_) (fun hc => ?_)
      · replace hf := if_1 hc hf
        refine j_iload_n hK dX11_readsCall_52 0 rfl rfl ?_
        exact j_iret hK dX11_readsCall_53 rfl (rt_I hA hf)
      · replace hf := if_2 hc hf
        refine j_sub [1] rfl ?_
        exact t_X11_readsCall_43 hK hA  hf
  · replace hf := if_1 hc hf
    refine j_bipush hK (-100 : Int32) dX11_readsCall_20 bi_m100 ?_
    exact j_iret hK dX11_readsCall_22 rfl (rt_I hA hf)
def f_X11_wears_2b (ar : Nat) (e : Int32 → St → Option (Unit × St)) (k : Int32 → St → Option (Unit × St)) (v : Int32) (S : St) : Option (Unit × St) := (if (gI S 122 24) ≤ v then e v S else if inb v 12 then if inb v 12 then if inb ((24 : Int32) + (gI S 134 v.toNatClampNeg)) 39 then lt ((gI S ar ((24 : Int32) + (gI S 134 v.toNatClampNeg)).toNatClampNeg) + (1 : Int32)) (fun y4 => if inb ((24 : Int32) + (gI S 134 v.toNatClampNeg)) 39 then lt (sI S ar ((24 : Int32) + (gI S 134 v.toNatClampNeg)).toNatClampNeg (mnI (9 : Int32) y4)) (fun S6 => k (v + (1 : Int32)) S6) else none) else none else none else none)
theorem t_X11_wears_2 {K : CT} (hK : KO K cX11_wears RX11 3 1 none) {r : Unit} {S' : St} (hA : zans K (none, S')) {ar : Nat} (har : zB 12 39 ar) {e : Int32 → St → Option (Unit × St)} (he : ∀ (v : Int32) (S : St), e v S = some (r, S') → J K 45 [(1, .ref ar)] [] S) : ∀ (n : Nat) (v : Int32) (S : St), lp (f_X11_wears_2b ar e) n v S = some (r, S') → J K 2 [(0, .ref 122), (1, .ref ar), (2, .int v)] [] S :=
  lp_J (P := fun (v : Int32) (S : St) => J K 2 [(0, .ref 122), (1, .ref ar), (2, .int v)] [] S) (fun k hk v S hf => by
    unfold f_X11_wears_2b at hf
    refine j_iload_n hK dX11_wears_2 2 rfl rfl ?_
    refine j_aload_n hK dX11_wears_3 0 rfl rfl ?_
    refine j_getI hK fl_X11_269 dX11_wears_4 zo_122 zf_11_24 ?_
    refine j_icmp_ge hK 45 dX11_wears_7 (by decide) (fun hc => ?_) (fun hc => ?_)
    · replace hf := if_1 hc hf
      refine j_sub [1] rfl ?_
      exact he _ _ hf
    · replace hf := if_2 hc hf
      refine j_aload_n hK dX11_wears_10 1 rfl rfl ?_
      refine j_bipush hK (24 : Int32) dX11_wears_11 bi_24 ?_
      refine j_aload_n hK dX11_wears_13 0 rfl rfl ?_
      refine j_getR hK fl_X11_55 dX11_wears_14 zo_122 zf_11_22 zr_122_22 ?_
      refine j_iload_n hK dX11_wears_17 2 rfl rfl ?_
      obtain ⟨hi1, hf⟩ := gd hf
      refine k_iald hK dX11_wears_18 zb_134 hi1 rfl ?_
      refine j_iadd hK dX11_wears_19 ?_
      refine j_pc (pc' := 20) rfl ?_
      refine j_bipush hK (9 : Int32) dX11_wears_20 bi_9 ?_
      refine j_aload_n hK dX11_wears_22 1 rfl rfl ?_
      refine j_bipush hK (24 : Int32) dX11_wears_23 bi_24 ?_
      refine j_aload_n hK dX11_wears_25 0 rfl rfl ?_
      refine j_getR hK fl_X11_55 dX11_wears_26 zo_122 zf_11_22 zr_122_22 ?_
      refine j_iload_n hK dX11_wears_29 2 rfl rfl ?_
      obtain ⟨hi2, hf⟩ := gd hf
      refine k_iald hK dX11_wears_30 zb_134 hi2 rfl ?_
      refine j_iadd hK dX11_wears_31 ?_
      refine j_pc (pc' := 32) rfl ?_
      obtain ⟨hi3, hf⟩ := gd hf
      refine k_iald hK dX11_wears_32 har hi3 rfl ?_
      refine j_iconst hK (1 : Int32) dX11_wears_33 ic_1 ?_
      refine j_iadd hK dX11_wears_34 ?_
      refine lt_I hf (fun y4 hf => ?_)
      refine j_min hK ml_X11_146 dX11_wears_35 (by decide) (Nat.le_of_ble_eq_true rfl) ?_
      obtain ⟨hi5, hf⟩ := gd hf
      refine k_iast hK dX11_wears_38 har hi5 rfl ?_
      refine lt_S hf (fun S6 hf => ?_)
      refine j_iinc hK (L' := [(2, .int (v + (1 : Int32))), (0, .ref 122), (1, .ref ar)]) dX11_wears_39 2 rfl (congrArg (fun y => v + y) ic_1) (by decide) rfl ?_
      refine j_goto hK 2 dX11_wears_42 (by decide) ?_
      refine j_sub [1, 2, 0] rfl ?_
      exact hk _ _ hf)
def f_X11_wears (ar : Nat) (S : St) : Option (Unit × St) := lp (f_X11_wears_2b ar (fun v7 S8 => lt (sI S8 ar 38 (mnI (999 : Int32) ((gI S8 ar 38) + (1 : Int32)))) (fun S9 => some ((), S9)))) FU (0 : Int32) S
theorem c_X11_wears {ar : Nat} (har : zB 12 39 ar) {S : St} {r : Unit} {S' : St} (hf : f_X11_wears ar S = some (r, S')) : zM yX11_wears cX11_wears 3 1 none [.ref 122, .ref ar] S (none) S' := by
  refine zM_of (zpl (by decide)) (Nat.le_of_ble_eq_true rfl) rfl (fun K hK hA => ?_)
  unfold f_X11_wears at hf
  refine j_iconst hK (0 : Int32) dX11_wears_0 ic_0 ?_
  refine j_istore_n hK (L' := [(2, .int (0 : Int32)), (0, .ref 122), (1, .ref ar)]) dX11_wears_1 rfl (by decide) rfl ?_
  refine j_sub [1, 2, 0] rfl ?_
  refine t_X11_wears_2 hK hA har (fun v7 S8 hf => ?_) _ _ _ hf
  refine j_aload_n hK dX11_wears_45 0 rfl rfl ?_
  refine j_bipush hK (38 : Int32) dX11_wears_46 bi_38 ?_
  refine j_sipush hK (999 : Int32) dX11_wears_48 si_999 ?_
  refine j_aload_n hK dX11_wears_51 0 rfl rfl ?_
  refine j_bipush hK (38 : Int32) dX11_wears_52 bi_38 ?_
  refine k_iald hK dX11_wears_54 har (by decide) tn_38 ?_
  refine j_iconst hK (1 : Int32) dX11_wears_55 ic_1 ?_
  refine j_pc (pc' := 56) rfl ?_
  refine j_iadd hK dX11_wears_56 ?_
  refine j_min hK ml_X11_146 dX11_wears_57 (by decide) (Nat.le_of_ble_eq_true rfl) ?_
  refine k_iast hK dX11_wears_60 har (by decide) tn_38 ?_
  refine lt_S hf (fun S9 hf => ?_)
  exact j_vret hK dX11_wears_61 rfl (rt_V hA hf)
def f_X11_calls_45b (x3 : Int32) (e : Int32 → St → Option (Int32 × St)) (k : Int32 → St → Option (Int32 × St)) (v : Int32) (S : St) : Option (Int32 × St) := (if x3 ≤ v then e v S else if inb v 6 then bd (f_X11_comesOut 126 (gI S 138 v.toNatClampNeg) v S) (fun r2 S3 => bd (f_X11_enters r2.toInt64 S3) (fun r5 S6 => k (v + (1 : Int32)) S6)) else none)
theorem t_X11_calls_45 {K : CT} (hK : KO K cX11_calls RX11 5 6 (some .int)) {r : Int32} {S' : St} (hA : zans K (some (.int r), S')) {x3 : Int32} {e : Int32 → St → Option (Int32 × St)} (he : ∀ (v : Int32) (S : St), e v S = some (r, S') → J K 79 [(0, .ref 122)] [] S) : ∀ (n : Nat) (v : Int32) (S : St), lp (f_X11_calls_45b x3 e) n v S = some (r, S') → J K 45 [(0, .ref 122), (3, .int x3), (4, .int v)] [] S :=
  lp_J (P := fun (v : Int32) (S : St) => J K 45 [(0, .ref 122), (3, .int x3), (4, .int v)] [] S) (fun k hk v S hf => by
    unfold f_X11_calls_45b at hf
    refine j_iload hK dX11_calls_45 2 rfl ?_
    refine j_iload_n hK dX11_calls_47 1 rfl rfl ?_
    refine j_icmp_ge hK 79 dX11_calls_48 (by decide) (fun hc => ?_) (fun hc => ?_)
    · replace hf := if_1 hc hf
      refine j_sub [0] rfl ?_
      exact he _ _ hf
    · replace hf := if_2 hc hf
      refine j_aload_n hK dX11_calls_51 0 rfl rfl ?_
      refine j_aload_n hK dX11_calls_52 0 rfl rfl ?_
      refine j_aload_n hK dX11_calls_53 0 rfl rfl ?_
      refine j_getR hK fl_X11_31 dX11_calls_54 zo_122 zf_11_7 zr_122_7 ?_
      refine j_aload_n hK dX11_calls_57 0 rfl rfl ?_
      refine j_getR hK fl_X11_68 dX11_calls_58 zo_122 zf_11_30 zr_122_30 ?_
      refine j_iload hK dX11_calls_61 2 rfl ?_
      refine j_pc (pc' := 63) rfl ?_
      obtain ⟨hi1, hf⟩ := gd hf
      refine k_iald hK dX11_calls_63 zb_138 hi1 rfl ?_
      refine j_iload hK dX11_calls_64 2 rfl ?_
      obtain ⟨r2, S3, h4, hf⟩ := bd_J hf
      refine k_callVi hK (c_X11_comesOut zb_126 h4) dX11_calls_66 zclX11 zo_122 ml_X11_344 mi_X11_comesOut mx_X11_comesOut in_X11 mc_X11_comesOut hy_X11_comesOut ⟨by decide, by decide⟩ rfl (Nat.le_of_ble_eq_true rfl) ?_
      refine j_i2l hK dX11_calls_69 ?_
      obtain ⟨r5, S6, h7, hf⟩ := bd_J hf
      refine k_callVv hK (c_X11_enters h7) dX11_calls_70 zclX11 zo_122 ml_X11_340 mi_X11_enters mx_X11_enters in_X11 mc_X11_enters hy_X11_enters ⟨by decide, by decide⟩ rfl (Nat.le_of_ble_eq_true rfl) ?_
      refine j_iinc hK (L' := [(4, .int (v + (1 : Int32))), (0, .ref 122), (3, .int x3)]) dX11_calls_73 2 rfl (congrArg (fun y => v + y) ic_1) (by decide) rfl ?_
      refine j_goto hK 45 dX11_calls_76 (by decide) ?_
      refine j_sub [1, 2, 0] rfl ?_
      exact hk _ _ hf)
def f_X11_calls (p1 : Int32) (p2 : Int32) (S : St) : Option (Int32 × St) := lt (sI S 122 0 (0 : Int32)) (fun S8 => bd (f_X11_readsCall p1 p2 S8) (fun r9 S10 => (if 0 ≤ r9 then bd (f_X11_laysEcho 126 p1 p2 S10) (fun r12 S13 => lt (sI S13 122 1 (0 : Int32)) (fun S15 => bd (f_X11_enters (gI S15 122 26).toInt64 S15) (fun r16 S17 => lp (f_X11_calls_45b r9 (fun v19 S20 => bd (f_X11_putsBy S20) (fun r21 S22 => bd (f_X11_wears 126 S22) (fun r24 S25 => bd (f_X11_adds (gI S25 122 25) S25) (fun r27 S28 => some (r27, S28)))))) FU (0 : Int32) S17))) else some (r9, S10))))
theorem c_X11_calls {p1 : Int32} {p2 : Int32} {S : St} {r : Int32} {S' : St} (hf : f_X11_calls p1 p2 S = some (r, S')) : zM yX11_calls cX11_calls 5 6 (some .int) [.ref 122, .int p1, .int p2] S (some (.int r)) S' := by
  refine zM_of (zpl (by decide)) (Nat.le_of_ble_eq_true rfl) rfl (fun K hK hA => ?_)
  unfold f_X11_calls at hf
  refine j_aload_n hK dX11_calls_0 0 rfl rfl ?_
  refine j_iconst hK (0 : Int32) dX11_calls_1 ic_0 ?_
  refine j_putI hK fl_X11_3 dX11_calls_2 zo_122 zf_11_0 ?_
  refine lt_S hf (fun S8 hf => ?_)
  refine j_aload_n hK dX11_calls_5 0 rfl rfl ?_
  refine j_iload_n hK dX11_calls_6 1 rfl rfl ?_
  refine j_iload_n hK dX11_calls_7 2 rfl rfl ?_
  obtain ⟨r9, S10, h11, hf⟩ := bd_J hf
  refine k_callVi hK (c_X11_readsCall h11) dX11_calls_8 zclX11 zo_122 ml_X11_333 mi_X11_readsCall mx_X11_readsCall in_X11 mc_X11_readsCall hy_X11_readsCall ⟨by decide, by decide⟩ rfl (Nat.le_of_ble_eq_true rfl) ?_
  refine j_istore_n hK (L' := [(3, .int r9), (0, .ref 122), (1, .int p1), (2, .int p2)]) dX11_calls_11 rfl (by decide) rfl ?_
  refine j_pc (pc' := 12) rfl ?_
  refine j_iload_n hK dX11_calls_12 0 rfl rfl ?_
  refine j_if_ge hK 18 dX11_calls_13 (by decide) (fun hc => ?_) (fun hc => ?_)
  · replace hf := if_1 hc hf
    refine j_aload_n hK dX11_calls_18 1 rfl rfl ?_
    refine j_aload_n hK dX11_calls_19 1 rfl rfl ?_
    refine j_getR hK fl_X11_31 dX11_calls_20 zo_122 zf_11_7 zr_122_7 ?_
    refine j_iload_n hK dX11_calls_23 2 rfl rfl ?_
    refine j_iload_n hK dX11_calls_24 3 rfl rfl ?_
    obtain ⟨r12, S13, h14, hf⟩ := bd_J hf
    refine k_callVv hK (c_X11_laysEcho zb_126 h14) dX11_calls_25 zclX11 zo_122 ml_X11_336 mi_X11_laysEcho mx_X11_laysEcho in_X11 mc_X11_laysEcho hy_X11_laysEcho ⟨by decide, by decide⟩ rfl (Nat.le_of_ble_eq_true rfl) ?_
    refine j_aload_n hK dX11_calls_28 1 rfl rfl ?_
    refine j_pc (pc' := 29) rfl ?_
    refine j_iconst hK (0 : Int32) dX11_calls_29 ic_0 ?_
    refine j_putI hK fl_X11_15 dX11_calls_30 zo_122 zf_11_1 ?_
    refine lt_S hf (fun S15 hf => ?_)
    refine j_aload_n hK dX11_calls_33 1 rfl rfl ?_
    refine j_aload_n hK dX11_calls_34 1 rfl rfl ?_
    refine j_getI hK fl_X11_275 dX11_calls_35 zo_122 zf_11_26 ?_
    refine j_i2l hK dX11_calls_38 ?_
    obtain ⟨r16, S17, h18, hf⟩ := bd_J hf
    refine k_callVv hK (c_X11_enters h18) dX11_calls_39 zclX11 zo_122 ml_X11_340 mi_X11_enters mx_X11_enters in_X11 mc_X11_enters hy_X11_enters ⟨by decide, by decide⟩ rfl (Nat.le_of_ble_eq_true rfl) ?_
    refine j_iconst hK (0 : Int32) dX11_calls_42 ic_0 ?_
    refine j_pc (pc' := 43) rfl ?_
    refine j_istore hK (L' := [(4, .int (0 : Int32)), (3, .int r9), (0, .ref 122), (1, .int p1), (2, .int p2)]) dX11_calls_43 (by decide) rfl ?_
    refine j_sub [2, 1, 0] rfl ?_
    refine t_X11_calls_45 hK hA  (fun v19 S20 hf => ?_) _ _ _ hf
    refine j_aload_n hK dX11_calls_79 0 rfl rfl ?_
    obtain ⟨r21, S22, h23, hf⟩ := bd_J hf
    refine k_callVv hK (c_X11_putsBy h23) dX11_calls_80 zclX11 zo_122 ml_X11_348 mi_X11_putsBy mx_X11_putsBy in_X11 mc_X11_putsBy hy_X11_putsBy ⟨by decide, by decide⟩ rfl (Nat.le_of_ble_eq_true rfl) ?_
    refine j_aload_n hK dX11_calls_83 0 rfl rfl ?_
    refine j_aload_n hK dX11_calls_84 0 rfl rfl ?_
    refine j_getR hK fl_X11_31 dX11_calls_85 zo_122 zf_11_7 zr_122_7 ?_
    obtain ⟨r24, S25, h26, hf⟩ := bd_J hf
    refine k_callVv hK (c_X11_wears zb_126 h26) dX11_calls_88 zclX11 zo_122 ml_X11_351 mi_X11_wears mx_X11_wears in_X11 mc_X11_wears hy_X11_wears ⟨by decide, by decide⟩ rfl (Nat.le_of_ble_eq_true rfl) ?_
    refine j_aload_n hK dX11_calls_91 0 rfl rfl ?_
    refine j_pc (pc' := 92) rfl ?_
    refine j_aload_n hK dX11_calls_92 0 rfl rfl ?_
    refine j_getI hK fl_X11_272 dX11_calls_93 zo_122 zf_11_25 ?_
    obtain ⟨r27, S28, h29, hf⟩ := bd_J hf
    refine k_callVi hK (c_X11_adds h29) dX11_calls_96 zclX11 zo_122 ml_X11_320 mi_X11_adds mx_X11_adds in_X11 mc_X11_adds hy_X11_adds ⟨by decide, by decide⟩ rfl (Nat.le_of_ble_eq_true rfl) ?_
    exact j_iret hK dX11_calls_99 rfl (rt_I hA hf)
  · replace hf := if_2 hc hf
    refine j_iload_n hK dX11_calls_16 0 rfl rfl ?_
    exact j_iret hK dX11_calls_17 rfl (rt_I hA hf)
def f_X11_hoursGo_2b (ar : Nat) (x2 : Int32) (e : Int32 → St → Option (Unit × St)) (k : Int32 → St → Option (Unit × St)) (v : Int32) (S : St) : Option (Unit × St) := (if (gI S 122 3) ≤ v then e v S else if inb ((24 : Int32) + v) 39 then if inb ((24 : Int32) + v) 39 then lt (sI S ar ((24 : Int32) + v).toNatClampNeg (mxI (0 : Int32) ((gI S ar ((24 : Int32) + v).toNatClampNeg) - x2))) (fun S3 => k (v + (1 : Int32)) S3) else none else none)
theorem t_X11_hoursGo_2 {K : CT} (hK : KO K cX11_hoursGo RX11 4 1 none) {r : Unit} {S' : St} (hA : zans K (none, S')) {ar : Nat} (har : zB 12 39 ar) {x2 : Int32} {e : Int32 → St → Option (Unit × St)} (he : ∀ (v : Int32) (S : St), e v S = some (r, S') → J K 34 [(1, .ref ar), (2, .int x2)] [] S) : ∀ (n : Nat) (v : Int32) (S : St), lp (f_X11_hoursGo_2b ar x2 e) n v S = some (r, S') → J K 2 [(0, .ref 122), (1, .ref ar), (2, .int x2), (3, .int v)] [] S :=
  lp_J (P := fun (v : Int32) (S : St) => J K 2 [(0, .ref 122), (1, .ref ar), (2, .int x2), (3, .int v)] [] S) (fun k hk v S hf => by
    unfold f_X11_hoursGo_2b at hf
    refine j_iload_n hK dX11_hoursGo_2 3 rfl rfl ?_
    refine j_aload_n hK dX11_hoursGo_3 0 rfl rfl ?_
    refine j_getI hK fl_X11_128 dX11_hoursGo_4 zo_122 zf_11_3 ?_
    refine j_icmp_ge hK 34 dX11_hoursGo_7 (by decide) (fun hc => ?_) (fun hc => ?_)
    · replace hf := if_1 hc hf
      refine j_sub [1, 2] rfl ?_
      exact he _ _ hf
    · replace hf := if_2 hc hf
      refine j_aload_n hK dX11_hoursGo_10 1 rfl rfl ?_
      refine j_bipush hK (24 : Int32) dX11_hoursGo_11 bi_24 ?_
      refine j_iload_n hK dX11_hoursGo_13 3 rfl rfl ?_
      refine j_iadd hK dX11_hoursGo_14 ?_
      refine j_iconst hK (0 : Int32) dX11_hoursGo_15 ic_0 ?_
      refine j_aload_n hK dX11_hoursGo_16 1 rfl rfl ?_
      refine j_bipush hK (24 : Int32) dX11_hoursGo_17 bi_24 ?_
      refine j_pc (pc' := 19) rfl ?_
      refine j_iload_n hK dX11_hoursGo_19 3 rfl rfl ?_
      refine j_iadd hK dX11_hoursGo_20 ?_
      obtain ⟨hi1, hf⟩ := gd hf
      refine k_iald hK dX11_hoursGo_21 har hi1 rfl ?_
      refine j_iload_n hK dX11_hoursGo_22 2 rfl rfl ?_
      refine j_isub hK dX11_hoursGo_23 ?_
      refine j_max hK ml_X11_297 dX11_hoursGo_24 (by decide) (Nat.le_of_ble_eq_true rfl) ?_
      obtain ⟨hi2, hf⟩ := gd hf
      refine k_iast hK dX11_hoursGo_27 har hi2 rfl ?_
      refine lt_S hf (fun S3 hf => ?_)
      refine j_iinc hK (L' := [(3, .int (v + (1 : Int32))), (0, .ref 122), (1, .ref ar), (2, .int x2)]) dX11_hoursGo_28 3 rfl (congrArg (fun y => v + y) ic_1) (by decide) rfl ?_
      refine j_pc (pc' := 31) rfl ?_
      refine j_goto hK 2 dX11_hoursGo_31 (by decide) ?_
      refine j_sub [1, 2, 3, 0] rfl ?_
      exact hk _ _ hf)
def f_X11_hoursGo (ar : Nat) (p2 : Int32) (S : St) : Option (Unit × St) := lp (f_X11_hoursGo_2b ar p2 (fun v4 S5 => lt (sI S5 ar 37 ((gI S5 ar 37) + p2)) (fun S6 => some ((), S6)))) FU (0 : Int32) S
theorem c_X11_hoursGo {ar : Nat} (har : zB 12 39 ar) {p2 : Int32} {S : St} {r : Unit} {S' : St} (hf : f_X11_hoursGo ar p2 S = some (r, S')) : zM yX11_hoursGo cX11_hoursGo 4 1 none [.ref 122, .ref ar, .int p2] S (none) S' := by
  refine zM_of (zpl (by decide)) (Nat.le_of_ble_eq_true rfl) rfl (fun K hK hA => ?_)
  unfold f_X11_hoursGo at hf
  refine j_iconst hK (0 : Int32) dX11_hoursGo_0 ic_0 ?_
  refine j_istore_n hK (L' := [(3, .int (0 : Int32)), (0, .ref 122), (1, .ref ar), (2, .int p2)]) dX11_hoursGo_1 rfl (by decide) rfl ?_
  refine j_sub [1, 2, 3, 0] rfl ?_
  refine t_X11_hoursGo_2 hK hA har (fun v4 S5 hf => ?_) _ _ _ hf
  refine j_aload_n hK dX11_hoursGo_34 0 rfl rfl ?_
  refine j_bipush hK (37 : Int32) dX11_hoursGo_35 bi_37 ?_
  refine j_dup2 hK dX11_hoursGo_37 rfl rfl ?_
  refine k_iald hK dX11_hoursGo_38 har (by decide) tn_37 ?_
  refine j_iload_n hK dX11_hoursGo_39 1 rfl rfl ?_
  refine j_iadd hK dX11_hoursGo_40 ?_
  refine k_iast hK dX11_hoursGo_41 har (by decide) tn_37 ?_
  refine lt_S hf (fun S6 hf => ?_)
  refine j_pc (pc' := 42) rfl ?_
  exact j_vret hK dX11_hoursGo_42 rfl (rt_V hA hf)
def f_X11_fallsOne (ar : Nat) (p2 : Int32) (S : St) : Option (Int32 × St) := bd (f_X11_isPassage p2 S) (fun r1 S2 => (if r1 = 0 then some ((-1 : Int32), S2) else lt (sI S2 ar 36 ((gI S2 ar 36) ^^^ ((1 : Int32) <<< (p2 &&& 31)))) (fun S4 => bd (f_J6_bitCount_0f7a4 (gI S4 ar 36) S4) (fun r5 S6 => some (r5, S6)))))
theorem c_X11_fallsOne {ar : Nat} (har : zB 12 39 ar) {p2 : Int32} {S : St} {r : Int32} {S' : St} (hf : f_X11_fallsOne ar p2 S = some (r, S')) : zM yX11_fallsOne cX11_fallsOne 3 3 (some .int) [.ref 122, .ref ar, .int p2] S (some (.int r)) S' := by
  refine zM_of (zpl (by decide)) (Nat.le_of_ble_eq_true rfl) rfl (fun K hK hA => ?_)
  unfold f_X11_fallsOne at hf
  refine j_aload_n hK dX11_fallsOne_0 0 rfl rfl ?_
  refine j_iload_n hK dX11_fallsOne_1 2 rfl rfl ?_
  obtain ⟨r1, S2, h3, hf⟩ := bd_J hf
  refine k_callVi hK (c_X11_isPassage h3) dX11_fallsOne_2 zclX11 zo_122 ml_X11_259 mi_X11_isPassage mx_X11_isPassage in_X11 mc_X11_isPassage hy_X11_isPassage ⟨by decide, by decide⟩ rfl (Nat.le_of_ble_eq_true rfl) ?_
  refine j_if_ne hK 10 dX11_fallsOne_5 (by decide) (fun hc => ?_) (fun hc => ?_)
  · replace hf := if_2 hc hf
    refine j_aload_n hK dX11_fallsOne_10 1 rfl rfl ?_
    refine j_bipush hK (36 : Int32) dX11_fallsOne_11 bi_36 ?_
    refine j_dup2 hK dX11_fallsOne_13 rfl rfl ?_
    refine k_iald hK dX11_fallsOne_14 har (by decide) tn_36 ?_
    refine j_iconst hK (1 : Int32) dX11_fallsOne_15 ic_1 ?_
    refine j_iload_n hK dX11_fallsOne_16 2 rfl rfl ?_
    refine j_ishl hK dX11_fallsOne_17 ?_
    refine j_pc (pc' := 18) rfl ?_
    refine j_ixor hK dX11_fallsOne_18 ?_
    refine k_iast hK dX11_fallsOne_19 har (by decide) tn_36 ?_
    refine lt_S hf (fun S4 hf => ?_)
    refine j_aload_n hK dX11_fallsOne_20 1 rfl rfl ?_
    refine j_bipush hK (36 : Int32) dX11_fallsOne_21 bi_36 ?_
    refine k_iald hK dX11_fallsOne_23 har (by decide) tn_36 ?_
    obtain ⟨r5, S6, h7, hf⟩ := bd_J hf
    refine k_callSi hK (c_J6_bitCount_0f7a4 h7) dX11_fallsOne_24 ml_X11_355 ms_J6_bitCount_0f7a4 in_J6 mc_J6_bitCount_0f7a4 hy_J6_bitCount_0f7a4 ⟨by decide, by decide⟩ rfl (Nat.le_of_ble_eq_true rfl) ?_
    exact j_iret hK dX11_fallsOne_27 rfl (rt_I hA hf)
  · replace hf := if_1 hc hf
    refine j_iconst hK (-1 : Int32) dX11_fallsOne_8 ic_m1 ?_
    exact j_iret hK dX11_fallsOne_9 rfl (rt_I hA hf)
def f_X11_digsOne_60 (x1 : Int32) (x2 : Int32) (x3 : Int32) (S : St) : Option (Int32 × St) := if inb x1 39 then if inb ((12 : Int32) + x1) 39 then lt (((100 : Int32) + ((10 : Int32) * (gI S 126 x1.toNatClampNeg))) + (gI S 126 ((12 : Int32) + x1).toNatClampNeg)) (fun y3 => if inb x1 39 then lt (sI S 126 x1.toNatClampNeg x2) (fun S5 => if inb ((12 : Int32) + x1) 39 then lt (sI S5 126 ((12 : Int32) + x1).toNatClampNeg x3) (fun S7 => some (y3, S7)) else none) else none) else none else none
theorem t_X11_digsOne_60 {K : CT} (hK : KO K cX11_digsOne RX11 5 3 (some .int)) {r : Int32} {S' : St} (hA : zans K (some (.int r), S')) {x1 : Int32} {x2 : Int32} {x3 : Int32} {S : St} (hf : f_X11_digsOne_60 x1 x2 x3 S = some (r, S')) : J K 60 [(0, .ref 122), (1, .int x1), (2, .int x2), (3, .int x3)] [] S := by
  unfold f_X11_digsOne_60 at hf
  refine j_bipush hK (100 : Int32) dX11_digsOne_60 bi_100 ?_
  refine j_bipush hK (10 : Int32) dX11_digsOne_62 bi_10 ?_
  refine j_aload_n hK dX11_digsOne_64 0 rfl rfl ?_
  refine j_getR hK fl_X11_31 dX11_digsOne_65 zo_122 zf_11_7 zr_122_7 ?_
  refine j_iload_n hK dX11_digsOne_68 1 rfl rfl ?_
  obtain ⟨hi1, hf⟩ := gd hf
  refine k_iald hK dX11_digsOne_69 zb_126 hi1 rfl ?_
  refine j_imul hK dX11_digsOne_70 ?_
  refine j_iadd hK dX11_digsOne_71 ?_
  refine j_pc (pc' := 72) rfl ?_
  refine j_aload_n hK dX11_digsOne_72 0 rfl rfl ?_
  refine j_getR hK fl_X11_31 dX11_digsOne_73 zo_122 zf_11_7 zr_122_7 ?_
  refine j_bipush hK (12 : Int32) dX11_digsOne_76 bi_12 ?_
  refine j_iload_n hK dX11_digsOne_78 1 rfl rfl ?_
  refine j_iadd hK dX11_digsOne_79 ?_
  obtain ⟨hi2, hf⟩ := gd hf
  refine k_iald hK dX11_digsOne_80 zb_126 hi2 rfl ?_
  refine j_iadd hK dX11_digsOne_81 ?_
  refine lt_I hf (fun y3 hf => ?_)
  refine j_istore hK (L' := [(4, .int y3), (0, .ref 122), (1, .int x1), (2, .int x2), (3, .int x3)]) dX11_digsOne_82 (by decide) rfl ?_
  refine j_pc (pc' := 84) rfl ?_
  refine j_aload_n hK dX11_digsOne_84 1 rfl rfl ?_
  refine j_getR hK fl_X11_31 dX11_digsOne_85 zo_122 zf_11_7 zr_122_7 ?_
  refine j_iload_n hK dX11_digsOne_88 2 rfl rfl ?_
  refine j_iload_n hK dX11_digsOne_89 3 rfl rfl ?_
  obtain ⟨hi4, hf⟩ := gd hf
  refine k_iast hK dX11_digsOne_90 zb_126 hi4 rfl ?_
  refine lt_S hf (fun S5 hf => ?_)
  refine j_aload_n hK dX11_digsOne_91 1 rfl rfl ?_
  refine j_getR hK fl_X11_31 dX11_digsOne_92 zo_122 zf_11_7 zr_122_7 ?_
  refine j_bipush hK (12 : Int32) dX11_digsOne_95 bi_12 ?_
  refine j_pc (pc' := 97) rfl ?_
  refine j_iload_n hK dX11_digsOne_97 2 rfl rfl ?_
  refine j_iadd hK dX11_digsOne_98 ?_
  refine j_iload_n hK dX11_digsOne_99 4 rfl rfl ?_
  obtain ⟨hi6, hf⟩ := gd hf
  refine k_iast hK dX11_digsOne_100 zb_126 hi6 rfl ?_
  refine lt_S hf (fun S7 hf => ?_)
  refine j_iload hK dX11_digsOne_101 0 rfl ?_
  exact j_iret hK dX11_digsOne_103 rfl (rt_I hA hf)
def f_X11_digsOne (p1 : Int32) (p2 : Int32) (p3 : Int32) (S : St) : Option (Int32 × St) := bd (f_X11_isPassage p1 S) (fun r8 S9 => (if r8 = 0 then some ((-1 : Int32), S9) else bd (f_X11_in p2.toInt64 (1 : Int64) (9 : Int64) S9) (fun r11 S12 => (if r11 = 0 then some ((-1 : Int32), S12) else bd (f_X11_in p3.toInt64 (0 : Int64) (9 : Int64) S12) (fun r14 S15 => (if r14 = 0 then some ((-1 : Int32), S15) else if inb p1 39 then (if (gI S15 126 p1.toNatClampNeg) = p2 then if inb ((12 : Int32) + p1) 39 then (if (gI S15 126 ((12 : Int32) + p1).toNatClampNeg) = p3 then some ((-2 : Int32), S15) else f_X11_digsOne_60 p1 p2 p3 S15) else none else f_X11_digsOne_60 p1 p2 p3 S15) else none))))))
theorem c_X11_digsOne {p1 : Int32} {p2 : Int32} {p3 : Int32} {S : St} {r : Int32} {S' : St} (hf : f_X11_digsOne p1 p2 p3 S = some (r, S')) : zM yX11_digsOne cX11_digsOne 5 3 (some .int) [.ref 122, .int p1, .int p2, .int p3] S (some (.int r)) S' := by
  refine zM_of (zpl (by decide)) (Nat.le_of_ble_eq_true rfl) rfl (fun K hK hA => ?_)
  unfold f_X11_digsOne at hf
  refine j_aload_n hK dX11_digsOne_0 0 rfl rfl ?_
  refine j_iload_n hK dX11_digsOne_1 1 rfl rfl ?_
  obtain ⟨r8, S9, h10, hf⟩ := bd_J hf
  refine k_callVi hK (c_X11_isPassage h10) dX11_digsOne_2 zclX11 zo_122 ml_X11_259 mi_X11_isPassage mx_X11_isPassage in_X11 mc_X11_isPassage hy_X11_isPassage ⟨by decide, by decide⟩ rfl (Nat.le_of_ble_eq_true rfl) ?_
  refine j_if_eq hK 32 dX11_digsOne_5 (by decide) (fun hc => ?_) (fun hc => ?_)
  · replace hf := if_1 hc hf
    refine j_iconst hK (-1 : Int32) dX11_digsOne_32 ic_m1 ?_
    exact j_iret hK dX11_digsOne_33 rfl (rt_I hA hf)
  · replace hf := if_2 hc hf
    refine j_iload_n hK dX11_digsOne_8 2 rfl rfl ?_
    refine j_i2l hK dX11_digsOne_9 ?_
    refine j_lconst hK (1 : Int64) dX11_digsOne_10 lc_1 ?_
    refine j_ldc2 hK (v := (9 : Int64)) cl_X11_360 dX11_digsOne_11 ?_
    obtain ⟨r11, S12, h13, hf⟩ := bd_J hf
    refine k_callSi hK (c_X11_in h13) dX11_digsOne_14 ml_X11_131 ms_X11_in in_X11 mc_X11_in hy_X11_in ⟨by decide, by decide⟩ rfl (Nat.le_of_ble_eq_true rfl) ?_
    refine j_if_eq hK 32 dX11_digsOne_17 (by decide) (fun hc => ?_) (fun hc => ?_)
    · replace hf := if_1 hc hf
      refine j_iconst hK (-1 : Int32) dX11_digsOne_32 ic_m1 ?_
      exact j_iret hK dX11_digsOne_33 rfl (rt_I hA hf)
    · replace hf := if_2 hc hf
      refine j_iload_n hK dX11_digsOne_20 3 rfl rfl ?_
      refine j_i2l hK dX11_digsOne_21 ?_
      refine j_lconst hK (0 : Int64) dX11_digsOne_22 lc_0 ?_
      refine j_ldc2 hK (v := (9 : Int64)) cl_X11_360 dX11_digsOne_23 ?_
      obtain ⟨r14, S15, h16, hf⟩ := bd_J hf
      refine k_callSi hK (c_X11_in h16) dX11_digsOne_26 ml_X11_131 ms_X11_in in_X11 mc_X11_in hy_X11_in ⟨by decide, by decide⟩ rfl (Nat.le_of_ble_eq_true rfl) ?_
      refine j_if_ne hK 34 dX11_digsOne_29 (by decide) (fun hc => ?_) (fun hc => ?_)
      · replace hf := if_2 hc hf
        refine j_aload_n hK dX11_digsOne_34 0 rfl rfl ?_
        refine j_getR hK fl_X11_31 dX11_digsOne_35 zo_122 zf_11_7 zr_122_7 ?_
        refine j_iload_n hK dX11_digsOne_38 1 rfl rfl ?_
        obtain ⟨hi17, hf⟩ := gd hf
        refine k_iald hK dX11_digsOne_39 zb_126 hi17 rfl ?_
        refine j_iload_n hK dX11_digsOne_40 2 rfl rfl ?_
        refine j_icmp_ne hK 60 dX11_digsOne_41 (by decide) (fun hc => ?_) (fun hc => ?_)
        · replace hf := if_2 hc hf
          exact t_X11_digsOne_60 hK hA  hf
        · replace hf := if_1 hc hf
          refine j_aload_n hK dX11_digsOne_44 0 rfl rfl ?_
          refine j_getR hK fl_X11_31 dX11_digsOne_45 zo_122 zf_11_7 zr_122_7 ?_
          refine j_bipush hK (12 : Int32) dX11_digsOne_48 bi_12 ?_
          refine j_iload_n hK dX11_digsOne_50 1 rfl rfl ?_
          refine j_iadd hK dX11_digsOne_51 ?_
          obtain ⟨hi18, hf⟩ := gd hf
          refine k_iald hK dX11_digsOne_52 zb_126 hi18 rfl ?_
          refine j_iload_n hK dX11_digsOne_53 3 rfl rfl ?_
          refine j_pc (pc' := 54) rfl ?_
          refine j_icmp_ne hK 60 dX11_digsOne_54 (by decide) (fun hc => ?_) (fun hc => ?_)
          · replace hf := if_2 hc hf
            exact t_X11_digsOne_60 hK hA  hf
          · replace hf := if_1 hc hf
            refine j_bipush hK (-2 : Int32) dX11_digsOne_57 bi_m2 ?_
            exact j_iret hK dX11_digsOne_59 rfl (rt_I hA hf)
      · replace hf := if_1 hc hf
        refine j_iconst hK (-1 : Int32) dX11_digsOne_32 ic_m1 ?_
        exact j_iret hK dX11_digsOne_33 rfl (rt_I hA hf)
def f_X11_hours (p1 : Int32) (S : St) : Option (Int32 × St) := lt (sI S 122 0 (0 : Int32)) (fun S1 => bd (f_X11_in p1.toInt64 (0 : Int64) (60 : Int64) S1) (fun r2 S3 => (if r2 = 0 then some ((-1 : Int32), S3) else bd (f_X11_putsBy S3) (fun r5 S6 => bd (f_X11_hoursGo 126 p1 S6) (fun r8 S9 => bd (f_X11_sumOf 126 (24 : Int32) S9) (fun r11 S12 => bd (f_X11_adds r11 S12) (fun r14 S15 => some (r14, S15))))))))
theorem c_X11_hours {p1 : Int32} {S : St} {r : Int32} {S' : St} (hf : f_X11_hours p1 S = some (r, S')) : zM yX11_hours cX11_hours 2 2 (some .int) [.ref 122, .int p1] S (some (.int r)) S' := by
  refine zM_of (zpl (by decide)) (Nat.le_of_ble_eq_true rfl) rfl (fun K hK hA => ?_)
  unfold f_X11_hours at hf
  refine j_aload_n hK dX11_hours_0 0 rfl rfl ?_
  refine j_iconst hK (0 : Int32) dX11_hours_1 ic_0 ?_
  refine j_putI hK fl_X11_3 dX11_hours_2 zo_122 zf_11_0 ?_
  refine lt_S hf (fun S1 hf => ?_)
  refine j_iload_n hK dX11_hours_5 1 rfl rfl ?_
  refine j_i2l hK dX11_hours_6 ?_
  refine j_lconst hK (0 : Int64) dX11_hours_7 lc_0 ?_
  refine j_ldc2 hK (v := (60 : Int64)) cl_X11_362 dX11_hours_8 ?_
  obtain ⟨r2, S3, h4, hf⟩ := bd_J hf
  refine k_callSi hK (c_X11_in h4) dX11_hours_11 ml_X11_131 ms_X11_in in_X11 mc_X11_in hy_X11_in ⟨by decide, by decide⟩ rfl (Nat.le_of_ble_eq_true rfl) ?_
  refine j_pc (pc' := 14) rfl ?_
  refine j_if_ne hK 19 dX11_hours_14 (by decide) (fun hc => ?_) (fun hc => ?_)
  · replace hf := if_2 hc hf
    refine j_aload_n hK dX11_hours_19 0 rfl rfl ?_
    obtain ⟨r5, S6, h7, hf⟩ := bd_J hf
    refine k_callVv hK (c_X11_putsBy h7) dX11_hours_20 zclX11 zo_122 ml_X11_348 mi_X11_putsBy mx_X11_putsBy in_X11 mc_X11_putsBy hy_X11_putsBy ⟨by decide, by decide⟩ rfl (Nat.le_of_ble_eq_true rfl) ?_
    refine j_aload_n hK dX11_hours_23 0 rfl rfl ?_
    refine j_aload_n hK dX11_hours_24 0 rfl rfl ?_
    refine j_getR hK fl_X11_31 dX11_hours_25 zo_122 zf_11_7 zr_122_7 ?_
    refine j_iload_n hK dX11_hours_28 1 rfl rfl ?_
    obtain ⟨r8, S9, h10, hf⟩ := bd_J hf
    refine k_callVv hK (c_X11_hoursGo zb_126 h10) dX11_hours_29 zclX11 zo_122 ml_X11_364 mi_X11_hoursGo mx_X11_hoursGo in_X11 mc_X11_hoursGo hy_X11_hoursGo ⟨by decide, by decide⟩ rfl (Nat.le_of_ble_eq_true rfl) ?_
    refine j_pc (pc' := 32) rfl ?_
    refine j_aload_n hK dX11_hours_32 0 rfl rfl ?_
    refine j_aload_n hK dX11_hours_33 0 rfl rfl ?_
    refine j_aload_n hK dX11_hours_34 0 rfl rfl ?_
    refine j_getR hK fl_X11_31 dX11_hours_35 zo_122 zf_11_7 zr_122_7 ?_
    refine j_bipush hK (24 : Int32) dX11_hours_38 bi_24 ?_
    obtain ⟨r11, S12, h13, hf⟩ := bd_J hf
    refine k_callVi hK (c_X11_sumOf zb_126 h13) dX11_hours_40 zclX11 zo_122 ml_X11_316 mi_X11_sumOf mx_X11_sumOf in_X11 mc_X11_sumOf hy_X11_sumOf ⟨by decide, by decide⟩ rfl (Nat.le_of_ble_eq_true rfl) ?_
    obtain ⟨r14, S15, h16, hf⟩ := bd_J hf
    refine k_callVi hK (c_X11_adds h16) dX11_hours_43 zclX11 zo_122 ml_X11_320 mi_X11_adds mx_X11_adds in_X11 mc_X11_adds hy_X11_adds ⟨by decide, by decide⟩ rfl (Nat.le_of_ble_eq_true rfl) ?_
    exact j_iret hK dX11_hours_46 rfl (rt_I hA hf)
  · replace hf := if_1 hc hf
    refine j_iconst hK (-1 : Int32) dX11_hours_17 ic_m1 ?_
    exact j_iret hK dX11_hours_18 rfl (rt_I hA hf)
def f_X11_falls (p1 : Int32) (S : St) : Option (Int32 × St) := lt (sI S 122 0 (0 : Int32)) (fun S1 => bd (f_X11_putsBy S1) (fun r2 S3 => bd (f_X11_fallsOne 126 p1 S3) (fun r5 S6 => bd (f_X11_counted r5 S6) (fun r8 S9 => some (r8, S9)))))
theorem c_X11_falls {p1 : Int32} {S : St} {r : Int32} {S' : St} (hf : f_X11_falls p1 S = some (r, S')) : zM yX11_falls cX11_falls 2 4 (some .int) [.ref 122, .int p1] S (some (.int r)) S' := by
  refine zM_of (zpl (by decide)) (Nat.le_of_ble_eq_true rfl) rfl (fun K hK hA => ?_)
  unfold f_X11_falls at hf
  refine j_aload_n hK dX11_falls_0 0 rfl rfl ?_
  refine j_iconst hK (0 : Int32) dX11_falls_1 ic_0 ?_
  refine j_putI hK fl_X11_3 dX11_falls_2 zo_122 zf_11_0 ?_
  refine lt_S hf (fun S1 hf => ?_)
  refine j_aload_n hK dX11_falls_5 0 rfl rfl ?_
  obtain ⟨r2, S3, h4, hf⟩ := bd_J hf
  refine k_callVv hK (c_X11_putsBy h4) dX11_falls_6 zclX11 zo_122 ml_X11_348 mi_X11_putsBy mx_X11_putsBy in_X11 mc_X11_putsBy hy_X11_putsBy ⟨by decide, by decide⟩ rfl (Nat.le_of_ble_eq_true rfl) ?_
  refine j_aload_n hK dX11_falls_9 0 rfl rfl ?_
  refine j_aload_n hK dX11_falls_10 0 rfl rfl ?_
  refine j_aload_n hK dX11_falls_11 0 rfl rfl ?_
  refine j_pc (pc' := 12) rfl ?_
  refine j_getR hK fl_X11_31 dX11_falls_12 zo_122 zf_11_7 zr_122_7 ?_
  refine j_iload_n hK dX11_falls_15 1 rfl rfl ?_
  obtain ⟨r5, S6, h7, hf⟩ := bd_J hf
  refine k_callVi hK (c_X11_fallsOne zb_126 h7) dX11_falls_16 zclX11 zo_122 ml_X11_367 mi_X11_fallsOne mx_X11_fallsOne in_X11 mc_X11_fallsOne hy_X11_fallsOne ⟨by decide, by decide⟩ rfl (Nat.le_of_ble_eq_true rfl) ?_
  obtain ⟨r8, S9, h10, hf⟩ := bd_J hf
  refine k_callVi hK (c_X11_counted h10) dX11_falls_19 zclX11 zo_122 ml_X11_370 mi_X11_counted mx_X11_counted in_X11 mc_X11_counted hy_X11_counted ⟨by decide, by decide⟩ rfl (Nat.le_of_ble_eq_true rfl) ?_
  exact j_iret hK dX11_falls_22 rfl (rt_I hA hf)
def f_X11_digs (p1 : Int32) (p2 : Int32) (p3 : Int32) (S : St) : Option (Int32 × St) := lt (sI S 122 0 (0 : Int32)) (fun S1 => bd (f_X11_putsBy S1) (fun r2 S3 => bd (f_X11_digsOne p1 p2 p3 S3) (fun r5 S6 => bd (f_X11_counted r5 S6) (fun r8 S9 => some (r8, S9)))))
theorem c_X11_digs {p1 : Int32} {p2 : Int32} {p3 : Int32} {S : St} {r : Int32} {S' : St} (hf : f_X11_digs p1 p2 p3 S = some (r, S')) : zM yX11_digs cX11_digs 4 4 (some .int) [.ref 122, .int p1, .int p2, .int p3] S (some (.int r)) S' := by
  refine zM_of (zpl (by decide)) (Nat.le_of_ble_eq_true rfl) rfl (fun K hK hA => ?_)
  unfold f_X11_digs at hf
  refine j_aload_n hK dX11_digs_0 0 rfl rfl ?_
  refine j_iconst hK (0 : Int32) dX11_digs_1 ic_0 ?_
  refine j_putI hK fl_X11_3 dX11_digs_2 zo_122 zf_11_0 ?_
  refine lt_S hf (fun S1 hf => ?_)
  refine j_aload_n hK dX11_digs_5 0 rfl rfl ?_
  obtain ⟨r2, S3, h4, hf⟩ := bd_J hf
  refine k_callVv hK (c_X11_putsBy h4) dX11_digs_6 zclX11 zo_122 ml_X11_348 mi_X11_putsBy mx_X11_putsBy in_X11 mc_X11_putsBy hy_X11_putsBy ⟨by decide, by decide⟩ rfl (Nat.le_of_ble_eq_true rfl) ?_
  refine j_aload_n hK dX11_digs_9 0 rfl rfl ?_
  refine j_aload_n hK dX11_digs_10 0 rfl rfl ?_
  refine j_iload_n hK dX11_digs_11 1 rfl rfl ?_
  refine j_pc (pc' := 12) rfl ?_
  refine j_iload_n hK dX11_digs_12 2 rfl rfl ?_
  refine j_iload_n hK dX11_digs_13 3 rfl rfl ?_
  obtain ⟨r5, S6, h7, hf⟩ := bd_J hf
  refine k_callVi hK (c_X11_digsOne h7) dX11_digs_14 zclX11 zo_122 ml_X11_373 mi_X11_digsOne mx_X11_digsOne in_X11 mc_X11_digsOne hy_X11_digsOne ⟨by decide, by decide⟩ rfl (Nat.le_of_ble_eq_true rfl) ?_
  obtain ⟨r8, S9, h10, hf⟩ := bd_J hf
  refine k_callVi hK (c_X11_counted h10) dX11_digs_17 zclX11 zo_122 ml_X11_370 mi_X11_counted mx_X11_counted in_X11 mc_X11_counted hy_X11_counted ⟨by decide, by decide⟩ rfl (Nat.le_of_ble_eq_true rfl) ?_
  exact j_iret hK dX11_digs_20 rfl (rt_I hA hf)
