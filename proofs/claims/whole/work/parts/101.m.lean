def f_X6_bindsAtLeast_20 (S : St) : Option (Int32 × St) := some ((1 : Int32), S)
theorem t_X6_bindsAtLeast_20 {K : CT} (hK : KO K cX6_bindsAtLeast RX6 2 2 (some .boolean)) {r : Int32} {S' : St} (hA : zans K (some (.int r), S')) {S : St} (hf : f_X6_bindsAtLeast_20  S = some (r, S')) : J K 20 [] [] S := by
  unfold f_X6_bindsAtLeast_20 at hf
  refine j_iconst hK (1 : Int32) dX6_bindsAtLeast_20 ic_1 ?_
  refine j_goto hK 25 dX6_bindsAtLeast_21 (by decide) ?_
  exact j_zret hK dX6_bindsAtLeast_25 rfl rfl (rt_I hA hf)
def f_X6_bindsAtLeast (p0 : Int32) (p1 : Int32) (S : St) : Option (Int32 × St) := (if p0 = (126 : Int32) then f_X6_bindsAtLeast_20  S else (if p0 = (40 : Int32) then some ((0 : Int32), S) else bd (f_X6_bindingOf p0 S) (fun r1 S2 => (if r1 < p1 then some ((0 : Int32), S2) else f_X6_bindsAtLeast_20  S2))))
theorem c_X6_bindsAtLeast {p0 : Int32} {p1 : Int32} {S : St} {r : Int32} {S' : St} (hf : f_X6_bindsAtLeast p0 p1 S = some (r, S')) : zM yX6_bindsAtLeast cX6_bindsAtLeast 2 2 (some .boolean) [.int p0, .int p1] S (some (.int r)) S' := by
  refine zM_of (zpl (by decide)) (Nat.le_of_ble_eq_true rfl) rfl (fun K hK hA => ?_)
  unfold f_X6_bindsAtLeast at hf
  refine j_iload_n hK dX6_bindsAtLeast_0 0 rfl rfl ?_
  refine j_bipush hK (126 : Int32) dX6_bindsAtLeast_1 bi_126 ?_
  refine j_icmp_eq hK 20 dX6_bindsAtLeast_3 (by decide) (fun hc => ?_) (fun hc => ?_)
  · replace hf := if_1 hc hf
    refine j_sub [] rfl ?_
    exact t_X6_bindsAtLeast_20 hK hA  hf
  · replace hf := if_2 hc hf
    refine j_iload_n hK dX6_bindsAtLeast_6 0 rfl rfl ?_
    refine j_bipush hK (40 : Int32) dX6_bindsAtLeast_7 bi_40 ?_
    refine j_icmp_eq hK 24 dX6_bindsAtLeast_9 (by decide) (fun hc => ?_) (fun hc => ?_)
    · replace hf := if_1 hc hf
      refine j_iconst hK (0 : Int32) dX6_bindsAtLeast_24 ic_0 ?_
      exact j_zret hK dX6_bindsAtLeast_25 rfl rfl (rt_I hA hf)
    · replace hf := if_2 hc hf
      refine j_iload_n hK dX6_bindsAtLeast_12 0 rfl rfl ?_
      obtain ⟨r1, S2, h3, hf⟩ := bd_J hf
      refine k_callSi hK (c_X6_bindingOf h3) dX6_bindsAtLeast_13 ml_X6_93 ms_X6_bindingOf in_X6 mc_X6_bindingOf hy_X6_bindingOf ⟨by decide, by decide⟩ rfl (Nat.le_of_ble_eq_true rfl) ?_
      refine j_iload_n hK dX6_bindsAtLeast_16 1 rfl rfl ?_
      refine j_icmp_lt hK 24 dX6_bindsAtLeast_17 (by decide) (fun hc => ?_) (fun hc => ?_)
      · replace hf := if_1 hc hf
        refine j_iconst hK (0 : Int32) dX6_bindsAtLeast_24 ic_0 ?_
        exact j_zret hK dX6_bindsAtLeast_25 rfl rfl (rt_I hA hf)
      · replace hf := if_2 hc hf
        refine j_sub [] rfl ?_
        exact t_X6_bindsAtLeast_20 hK hA  hf
def f_X6_release_0b (o : Nat) (x1 : Int32) (e : Unit → St → Option (Unit × St)) (k : Unit → St → Option (Unit × St)) (v : Unit) (S : St) : Option (Unit × St) := (if (gI S o 3) ≤ 0 then e () S else if inb ((gI S o 3) - (1 : Int32)) 40 then bd (f_X6_bindsAtLeast (gI S (o + 2) ((gI S o 3) - (1 : Int32)).toNatClampNeg) x1 S) (fun r2 S3 => (if r2 = 0 then e () S3 else lt (sI S3 o 3 ((gI S3 o 3) - (1 : Int32))) (fun S5 => if inb (gI S5 o 3) 40 then bd (f_X6_emit o ((2000 : Int32) + (gI S5 (o + 2) (gI S5 o 3).toNatClampNeg)) S5) (fun r7 S8 => k () S8) else none))) else none)
theorem t_X6_release_0 {K : CT} (hK : KO K cX6_release RX6 2 3 none) {r : Unit} {S' : St} (hA : zans K (none, S')) {o : Nat} (ho : isRule o) {x1 : Int32} {e : Unit → St → Option (Unit × St)} (he : ∀ (v : Unit) (S : St), e v S = some (r, S') → J K 55 [] [] S) : ∀ (n : Nat) (v : Unit) (S : St), lp (f_X6_release_0b o x1 e) n v S = some (r, S') → J K 0 [(0, .ref o), (1, .int x1)] [] S :=
  lp_J (P := fun (v : Unit) (S : St) => J K 0 [(0, .ref o), (1, .int x1)] [] S) (fun k hk v S hf => by
    unfold f_X6_release_0b at hf
    refine j_aload_n hK dX6_release_0 0 rfl rfl ?_
    refine j_getI hK fl_X6_23 dX6_release_1 (ru_o ho) zf_6_3 ?_
    refine j_if_le hK 55 dX6_release_4 (by decide) (fun hc => ?_) (fun hc => ?_)
    · replace hf := if_1 hc hf
      refine j_sub [] rfl ?_
      exact he _ _ hf
    · replace hf := if_2 hc hf
      refine j_aload_n hK dX6_release_7 0 rfl rfl ?_
      refine j_getR hK fl_X6_19 dX6_release_8 (ru_o ho) zf_6_2 (ru_r2 ho) ?_
      refine j_aload_n hK dX6_release_11 0 rfl rfl ?_
      refine j_getI hK fl_X6_23 dX6_release_12 (ru_o ho) zf_6_3 ?_
      refine j_iconst hK (1 : Int32) dX6_release_15 ic_1 ?_
      refine j_isub hK dX6_release_16 ?_
      obtain ⟨hi1, hf⟩ := gd hf
      refine k_cald hK dX6_release_17 (ru_b2 ho) hi1 rfl ?_
      refine j_pc (pc' := 18) rfl ?_
      refine j_iload_n hK dX6_release_18 1 rfl rfl ?_
      obtain ⟨r2, S3, h4, hf⟩ := bd_J hf
      refine k_callSi hK (c_X6_bindsAtLeast h4) dX6_release_19 ml_X6_100 ms_X6_bindsAtLeast in_X6 mc_X6_bindsAtLeast hy_X6_bindsAtLeast ⟨by decide, by decide⟩ rfl (Nat.le_of_ble_eq_true rfl) ?_
      refine j_if_eq hK 55 dX6_release_22 (by decide) (fun hc => ?_) (fun hc => ?_)
      · replace hf := if_1 hc hf
        refine j_sub [] rfl ?_
        exact he _ _ hf
      · replace hf := if_2 hc hf
        refine j_aload_n hK dX6_release_25 0 rfl rfl ?_
        refine j_dup hK dX6_release_26 rfl ?_
        refine j_getI hK fl_X6_23 dX6_release_27 (ru_o ho) zf_6_3 ?_
        refine j_iconst hK (1 : Int32) dX6_release_30 ic_1 ?_
        refine j_isub hK dX6_release_31 ?_
        refine j_putI hK fl_X6_23 dX6_release_32 (ru_o ho) zf_6_3 ?_
        refine lt_S hf (fun S5 hf => ?_)
        refine j_aload_n hK dX6_release_35 0 rfl rfl ?_
        refine j_pc (pc' := 36) rfl ?_
        refine j_sipush hK (2000 : Int32) dX6_release_36 si_2000 ?_
        refine j_aload_n hK dX6_release_39 0 rfl rfl ?_
        refine j_getR hK fl_X6_19 dX6_release_40 (ru_o ho) zf_6_2 (ru_r2 ho) ?_
        refine j_aload_n hK dX6_release_43 0 rfl rfl ?_
        refine j_getI hK fl_X6_23 dX6_release_44 (ru_o ho) zf_6_3 ?_
        obtain ⟨hi6, hf⟩ := gd hf
        refine k_cald hK dX6_release_47 (ru_b2 ho) hi6 rfl ?_
        refine j_iadd hK dX6_release_48 ?_
        obtain ⟨r7, S8, h9, hf⟩ := bd_J hf
        refine k_callVv hK (c_X6_emit ho h9) dX6_release_49 zclX6 (ru_o ho) ml_X6_82 mi_X6_emit mx_X6_emit in_X6 mc_X6_emit hy_X6_emit ⟨by decide, by decide⟩ rfl (Nat.le_of_ble_eq_true rfl) ?_
        refine j_pc (pc' := 52) rfl ?_
        refine j_goto hK 0 dX6_release_52 (by decide) ?_
        exact hk _ _ hf)
def f_X6_release (o : Nat) (p1 : Int32) (S : St) : Option (Unit × St) := lp (f_X6_release_0b o p1 (fun v10 S11 => some ((), S11))) FU () S
theorem c_X6_release {o : Nat} (ho : isRule o) {p1 : Int32} {S : St} {r : Unit} {S' : St} (hf : f_X6_release o p1 S = some (r, S')) : zM yX6_release cX6_release 2 3 none [.ref o, .int p1] S (none) S' := by
  refine zM_of (zpl (by decide)) (Nat.le_of_ble_eq_true rfl) rfl (fun K hK hA => ?_)
  unfold f_X6_release at hf
  refine t_X6_release_0 hK hA ho (fun v10 S11 hf => ?_) _ _ _ hf
  exact j_vret hK dX6_release_55 rfl (rt_V hA hf)
def f_X6_closes (o : Nat) (S : St) : Option (Int32 × St) := (if (gI S o 4) = 0 then some ((0 : Int32), S) else bd (f_X6_release o (1 : Int32) S) (fun r1 S2 => lt (sI S2 o 3 (mxI (0 : Int32) ((gI S2 o 3) - (1 : Int32)))) (fun S4 => lt (sI S4 o 4 ((gI S4 o 4) - (1 : Int32))) (fun S5 => some ((1 : Int32), S5)))))
theorem c_X6_closes {o : Nat} (ho : isRule o) {S : St} {r : Int32} {S' : St} (hf : f_X6_closes o S = some (r, S')) : zM yX6_closes cX6_closes 1 4 (some .boolean) [.ref o] S (some (.int r)) S' := by
  refine zM_of (zpl (by decide)) (Nat.le_of_ble_eq_true rfl) rfl (fun K hK hA => ?_)
  unfold f_X6_closes at hf
  refine j_aload_n hK dX6_closes_0 0 rfl rfl ?_
  refine j_getI hK fl_X6_26 dX6_closes_1 (ru_o ho) zf_6_4 ?_
  refine j_if_ne hK 9 dX6_closes_4 (by decide) (fun hc => ?_) (fun hc => ?_)
  · replace hf := if_2 hc hf
    refine j_aload_n hK dX6_closes_9 0 rfl rfl ?_
    refine j_iconst hK (1 : Int32) dX6_closes_10 ic_1 ?_
    obtain ⟨r1, S2, h3, hf⟩ := bd_J hf
    refine k_callVv hK (c_X6_release ho h3) dX6_closes_11 zclX6 (ru_o ho) ml_X6_66 mi_X6_release mx_X6_release in_X6 mc_X6_release hy_X6_release ⟨by decide, by decide⟩ rfl (Nat.le_of_ble_eq_true rfl) ?_
    refine j_aload_n hK dX6_closes_14 0 rfl rfl ?_
    refine j_iconst hK (0 : Int32) dX6_closes_15 ic_0 ?_
    refine j_aload_n hK dX6_closes_16 0 rfl rfl ?_
    refine j_getI hK fl_X6_23 dX6_closes_17 (ru_o ho) zf_6_3 ?_
    refine j_pc (pc' := 20) rfl ?_
    refine j_iconst hK (1 : Int32) dX6_closes_20 ic_1 ?_
    refine j_isub hK dX6_closes_21 ?_
    refine j_max hK ml_X6_97 dX6_closes_22 (by decide) (Nat.le_of_ble_eq_true rfl) ?_
    refine j_putI hK fl_X6_23 dX6_closes_25 (ru_o ho) zf_6_3 ?_
    refine lt_S hf (fun S4 hf => ?_)
    refine j_aload_n hK dX6_closes_28 0 rfl rfl ?_
    refine j_dup hK dX6_closes_29 rfl ?_
    refine j_getI hK fl_X6_26 dX6_closes_30 (ru_o ho) zf_6_4 ?_
    refine j_iconst hK (1 : Int32) dX6_closes_33 ic_1 ?_
    refine j_pc (pc' := 34) rfl ?_
    refine j_isub hK dX6_closes_34 ?_
    refine j_putI hK fl_X6_26 dX6_closes_35 (ru_o ho) zf_6_4 ?_
    refine lt_S hf (fun S5 hf => ?_)
    refine j_iconst hK (1 : Int32) dX6_closes_38 ic_1 ?_
    exact j_zret hK dX6_closes_39 rfl rfl (rt_I hA hf)
  · replace hf := if_1 hc hf
    refine j_iconst hK (0 : Int32) dX6_closes_7 ic_0 ?_
    exact j_zret hK dX6_closes_8 rfl rfl (rt_I hA hf)
def f_X6_takesBehindThing_97 (o : Nat) (x1 : Int32) (x2 : Int32) (S : St) : Option (Int32 × St) := bd (f_X6_release o x2 S) (fun r1 S2 => bd (f_X6_hold o x1 S2) (fun r4 S5 => lt (sI S5 o 7 (1 : Int32)) (fun S7 => some ((1 : Int32), S7))))
theorem t_X6_takesBehindThing_97 {K : CT} (hK : KO K cX6_takesBehindThing RX6 4 5 (some .boolean)) {r : Int32} {S' : St} (hA : zans K (some (.int r), S')) {o : Nat} (ho : isRule o) {x1 : Int32} {x2 : Int32} {S : St} (hf : f_X6_takesBehindThing_97 o x1 x2 S = some (r, S')) : J K 97 [(0, .ref o), (1, .int x1), (2, .int x2)] [] S := by
  unfold f_X6_takesBehindThing_97 at hf
  refine j_aload_n hK dX6_takesBehindThing_97 0 rfl rfl ?_
  refine j_iload_n hK dX6_takesBehindThing_98 2 rfl rfl ?_
  obtain ⟨r1, S2, h3, hf⟩ := bd_J hf
  refine k_callVv hK (c_X6_release ho h3) dX6_takesBehindThing_99 zclX6 (ru_o ho) ml_X6_66 mi_X6_release mx_X6_release in_X6 mc_X6_release hy_X6_release ⟨by decide, by decide⟩ rfl (Nat.le_of_ble_eq_true rfl) ?_
  refine j_aload_n hK dX6_takesBehindThing_102 0 rfl rfl ?_
  refine j_iload_n hK dX6_takesBehindThing_103 1 rfl rfl ?_
  obtain ⟨r4, S5, h6, hf⟩ := bd_J hf
  refine k_callVv hK (c_X6_hold ho h6) dX6_takesBehindThing_104 zclX6 (ru_o ho) ml_X6_70 mi_X6_hold mx_X6_hold in_X6 mc_X6_hold hy_X6_hold ⟨by decide, by decide⟩ rfl (Nat.le_of_ble_eq_true rfl) ?_
  refine j_aload_n hK dX6_takesBehindThing_107 0 rfl rfl ?_
  refine j_iconst hK (1 : Int32) dX6_takesBehindThing_108 ic_1 ?_
  refine j_pc (pc' := 109) rfl ?_
  refine j_putZ hK fl_X6_35 dX6_takesBehindThing_109 (ru_o ho) zf_6_7 (Or.inr rfl) ?_
  refine lt_S hf (fun S7 hf => ?_)
  refine j_iconst hK (1 : Int32) dX6_takesBehindThing_112 ic_1 ?_
  exact j_zret hK dX6_takesBehindThing_113 rfl rfl (rt_I hA hf)
def f_X6_takesBehindThing_78 (o : Nat) (x1 : Int32) (x2 : Int32) (x3 : Int32) (S : St) : Option (Int32 × St) := (if x3 = 0 then f_X6_takesBehindThing_97 o x1 x2 S else lt (sI S o 5 ((gI S o 5) ||| ((1 : Int32) <<< ((gI S o 4) &&& 31)))) (fun S8 => f_X6_takesBehindThing_97 o x1 x2 S8))
theorem t_X6_takesBehindThing_78 {K : CT} (hK : KO K cX6_takesBehindThing RX6 4 5 (some .boolean)) {r : Int32} {S' : St} (hA : zans K (some (.int r), S')) {o : Nat} (ho : isRule o) {x1 : Int32} {x2 : Int32} {x3 : Int32} {S : St} (hf : f_X6_takesBehindThing_78 o x1 x2 x3 S = some (r, S')) : J K 78 [(0, .ref o), (1, .int x1), (2, .int x2), (3, .int x3)] [] S := by
  unfold f_X6_takesBehindThing_78 at hf
  refine j_iload_n hK dX6_takesBehindThing_78 3 rfl rfl ?_
  refine j_if_eq hK 97 dX6_takesBehindThing_79 (by decide) (fun hc => ?_) (fun hc => ?_)
  · replace hf := if_1 hc hf
    refine j_sub [0, 1, 2] rfl ?_
    exact t_X6_takesBehindThing_97 hK hA ho hf
  · replace hf := if_2 hc hf
    refine j_aload_n hK dX6_takesBehindThing_82 0 rfl rfl ?_
    refine j_dup hK dX6_takesBehindThing_83 rfl ?_
    refine j_getI hK fl_X6_29 dX6_takesBehindThing_84 (ru_o ho) zf_6_5 ?_
    refine j_iconst hK (1 : Int32) dX6_takesBehindThing_87 ic_1 ?_
    refine j_aload_n hK dX6_takesBehindThing_88 0 rfl rfl ?_
    refine j_getI hK fl_X6_26 dX6_takesBehindThing_89 (ru_o ho) zf_6_4 ?_
    refine j_ishl hK dX6_takesBehindThing_92 ?_
    refine j_pc (pc' := 93) rfl ?_
    refine j_ior hK dX6_takesBehindThing_93 ?_
    refine j_putI hK fl_X6_29 dX6_takesBehindThing_94 (ru_o ho) zf_6_5 ?_
    refine lt_S hf (fun S8 hf => ?_)
    refine j_sub [0, 1, 2] rfl ?_
    exact t_X6_takesBehindThing_97 hK hA ho hf
def f_X6_takesBehindThing_52 (o : Nat) (x1 : Int32) (x2 : Int32) (s0 : Int32) (S : St) : Option (Int32 × St) := (if x2 = 0 then some ((0 : Int32), S) else (if s0 = 0 then f_X6_takesBehindThing_78 o x1 x2 s0 S else (if (((gI S o 5) >>> ((gI S o 4) &&& 31)) &&& (1 : Int32)) = (1 : Int32) then some ((0 : Int32), S) else f_X6_takesBehindThing_78 o x1 x2 s0 S)))
theorem t_X6_takesBehindThing_52 {K : CT} (hK : KO K cX6_takesBehindThing RX6 4 5 (some .boolean)) {r : Int32} {S' : St} (hA : zans K (some (.int r), S')) {o : Nat} (ho : isRule o) {x1 : Int32} {x2 : Int32} {s0 : Int32} {S : St} (hf : f_X6_takesBehindThing_52 o x1 x2 s0 S = some (r, S')) : J K 52 [(0, .ref o), (1, .int x1), (2, .int x2)] [.int s0] S := by
  unfold f_X6_takesBehindThing_52 at hf
  refine j_istore_n hK (L' := [(3, .int s0), (0, .ref o), (1, .int x1), (2, .int x2)]) dX6_takesBehindThing_52 rfl (by decide) rfl ?_
  refine j_iload_n hK dX6_takesBehindThing_53 3 rfl rfl ?_
  refine j_if_eq hK 76 dX6_takesBehindThing_54 (by decide) (fun hc => ?_) (fun hc => ?_)
  · replace hf := if_1 hc hf
    refine j_iconst hK (0 : Int32) dX6_takesBehindThing_76 ic_0 ?_
    exact j_zret hK dX6_takesBehindThing_77 rfl rfl (rt_I hA hf)
  · replace hf := if_2 hc hf
    refine j_iload_n hK dX6_takesBehindThing_57 0 rfl rfl ?_
    refine j_if_eq hK 78 dX6_takesBehindThing_58 (by decide) (fun hc => ?_) (fun hc => ?_)
    · replace hf := if_1 hc hf
      refine j_sub [1, 2, 3, 0] rfl ?_
      exact t_X6_takesBehindThing_78 hK hA ho hf
    · replace hf := if_2 hc hf
      refine j_aload_n hK dX6_takesBehindThing_61 1 rfl rfl ?_
      refine j_getI hK fl_X6_29 dX6_takesBehindThing_62 (ru_o ho) zf_6_5 ?_
      refine j_aload_n hK dX6_takesBehindThing_65 1 rfl rfl ?_
      refine j_getI hK fl_X6_26 dX6_takesBehindThing_66 (ru_o ho) zf_6_4 ?_
      refine j_ishr hK dX6_takesBehindThing_69 ?_
      refine j_iconst hK (1 : Int32) dX6_takesBehindThing_70 ic_1 ?_
      refine j_iand hK dX6_takesBehindThing_71 ?_
      refine j_pc (pc' := 72) rfl ?_
      refine j_iconst hK (1 : Int32) dX6_takesBehindThing_72 ic_1 ?_
      refine j_icmp_ne hK 78 dX6_takesBehindThing_73 (by decide) (fun hc => ?_) (fun hc => ?_)
      · replace hf := if_2 hc hf
        refine j_sub [1, 2, 3, 0] rfl ?_
        exact t_X6_takesBehindThing_78 hK hA ho hf
      · replace hf := if_1 hc hf
        refine j_iconst hK (0 : Int32) dX6_takesBehindThing_76 ic_0 ?_
        exact j_zret hK dX6_takesBehindThing_77 rfl rfl (rt_I hA hf)
def f_X6_takesBehindThing_21 (o : Nat) (x1 : Int32) (S : St) : Option (Int32 × St) := lt (sI S o 6 (0 : Int32)) (fun S9 => (if x1 = (41 : Int32) then bd (f_X6_closes o S9) (fun r13 S14 => if r13 = 0 ∨ r13 = 1 then some (r13, S14) else none) else bd (f_X6_bindingOf x1 S9) (fun r10 S11 => (if r10 = (1 : Int32) then f_X6_takesBehindThing_52 o x1 r10 (1 : Int32) S11 else f_X6_takesBehindThing_52 o x1 r10 (0 : Int32) S11))))
theorem t_X6_takesBehindThing_21 {K : CT} (hK : KO K cX6_takesBehindThing RX6 4 5 (some .boolean)) {r : Int32} {S' : St} (hA : zans K (some (.int r), S')) {o : Nat} (ho : isRule o) {x1 : Int32} {S : St} (hf : f_X6_takesBehindThing_21 o x1 S = some (r, S')) : J K 21 [(0, .ref o), (1, .int x1)] [] S := by
  unfold f_X6_takesBehindThing_21 at hf
  refine j_aload_n hK dX6_takesBehindThing_21 0 rfl rfl ?_
  refine j_iconst hK (0 : Int32) dX6_takesBehindThing_22 ic_0 ?_
  refine j_putI hK fl_X6_32 dX6_takesBehindThing_23 (ru_o ho) zf_6_6 ?_
  refine lt_S hf (fun S9 hf => ?_)
  refine j_iload_n hK dX6_takesBehindThing_26 1 rfl rfl ?_
  refine j_bipush hK (41 : Int32) dX6_takesBehindThing_27 bi_41 ?_
  refine j_icmp_ne hK 37 dX6_takesBehindThing_29 (by decide) (fun hc => ?_) (fun hc => ?_)
  · replace hf := if_2 hc hf
    refine j_iload_n hK dX6_takesBehindThing_37 1 rfl rfl ?_
    obtain ⟨r10, S11, h12, hf⟩ := bd_J hf
    refine k_callSi hK (c_X6_bindingOf h12) dX6_takesBehindThing_38 ml_X6_93 ms_X6_bindingOf in_X6 mc_X6_bindingOf hy_X6_bindingOf ⟨by decide, by decide⟩ rfl (Nat.le_of_ble_eq_true rfl) ?_
    refine j_istore_n hK (L' := [(2, .int r10), (0, .ref o), (1, .int x1)]) dX6_takesBehindThing_41 rfl (by decide) rfl ?_
    refine j_iload_n hK dX6_takesBehindThing_42 0 rfl rfl ?_
    refine j_iconst hK (1 : Int32) dX6_takesBehindThing_43 ic_1 ?_
    refine j_icmp_ne hK 51 dX6_takesBehindThing_44 (by decide) (fun hc => ?_) (fun hc => ?_)
    · replace hf := if_2 hc hf
      refine j_iconst hK (0 : Int32) dX6_takesBehindThing_51 ic_0 ?_
      refine j_sub [1, 2, 0] rfl ?_
      exact t_X6_takesBehindThing_52 hK hA ho hf
    · replace hf := if_1 hc hf
      refine j_iconst hK (1 : Int32) dX6_takesBehindThing_47 ic_1 ?_
      refine j_goto hK 52 dX6_takesBehindThing_48 (by decide) ?_
      refine j_sub [1, 2, 0] rfl ?_
      exact t_X6_takesBehindThing_52 hK hA ho hf
  · replace hf := if_1 hc hf
    refine j_aload_n hK dX6_takesBehindThing_32 0 rfl rfl ?_
    obtain ⟨r13, S14, h15, hf⟩ := bd_J hf
    refine k_callVi hK (c_X6_closes ho h15) dX6_takesBehindThing_33 zclX6 (ru_o ho) ml_X6_89 mi_X6_closes mx_X6_closes in_X6 mc_X6_closes hy_X6_closes ⟨by decide, by decide⟩ rfl (Nat.le_of_ble_eq_true rfl) ?_
    obtain ⟨hz, hf⟩ := gd hf
    exact j_zret hK dX6_takesBehindThing_36 rfl (nz hz) (rt_I hA hf)
def f_X6_takesBehindThing (o : Nat) (p1 : Int32) (S : St) : Option (Int32 × St) := (if p1 < (48 : Int32) then f_X6_takesBehindThing_21 o p1 S else (if (57 : Int32) < p1 then f_X6_takesBehindThing_21 o p1 S else bd (f_X6_takesDigit o (p1 - (48 : Int32)) S) (fun r16 S17 => if r16 = 0 ∨ r16 = 1 then some (r16, S17) else none)))
theorem c_X6_takesBehindThing {o : Nat} (ho : isRule o) {p1 : Int32} {S : St} {r : Int32} {S' : St} (hf : f_X6_takesBehindThing o p1 S = some (r, S')) : zM yX6_takesBehindThing cX6_takesBehindThing 4 5 (some .boolean) [.ref o, .int p1] S (some (.int r)) S' := by
  refine zM_of (zpl (by decide)) (Nat.le_of_ble_eq_true rfl) rfl (fun K hK hA => ?_)
  unfold f_X6_takesBehindThing at hf
  refine j_iload_n hK dX6_takesBehindThing_0 1 rfl rfl ?_
  refine j_bipush hK (48 : Int32) dX6_takesBehindThing_1 bi_48 ?_
  refine j_icmp_lt hK 21 dX6_takesBehindThing_3 (by decide) (fun hc => ?_) (fun hc => ?_)
  · replace hf := if_1 hc hf
    exact t_X6_takesBehindThing_21 hK hA ho hf
  · replace hf := if_2 hc hf
    refine j_iload_n hK dX6_takesBehindThing_6 1 rfl rfl ?_
    refine j_bipush hK (57 : Int32) dX6_takesBehindThing_7 bi_57 ?_
    refine j_icmp_gt hK 21 dX6_takesBehindThing_9 (by decide) (fun hc => ?_) (fun hc => ?_)
    · replace hf := if_1 hc hf
      exact t_X6_takesBehindThing_21 hK hA ho hf
    · replace hf := if_2 hc hf
      refine j_aload_n hK dX6_takesBehindThing_12 0 rfl rfl ?_
      refine j_iload_n hK dX6_takesBehindThing_13 1 rfl rfl ?_
      refine j_bipush hK (48 : Int32) dX6_takesBehindThing_14 bi_48 ?_
      refine j_isub hK dX6_takesBehindThing_16 ?_
      obtain ⟨r16, S17, h18, hf⟩ := bd_J hf
      refine k_callVi hK (c_X6_takesDigit ho h18) dX6_takesBehindThing_17 zclX6 (ru_o ho) ml_X6_85 mi_X6_takesDigit mx_X6_takesDigit in_X6 mc_X6_takesDigit hy_X6_takesDigit ⟨by decide, by decide⟩ rfl (Nat.le_of_ble_eq_true rfl) ?_
      obtain ⟨hz, hf⟩ := gd hf
      exact j_zret hK dX6_takesBehindThing_20 rfl (nz hz) (rt_I hA hf)
def f_X6_read_94 (o : Nat) (x2 : Int32) (x3 : Int32) (k e : Int32 → St → Option (Int32 × St)) (S : St) : Option (Int32 × St) := k (x3 + (1 : Int32)) S
theorem t_X6_read_94 {K : CT} (hK : KO K cX6_read RX6 5 6 (some .int)) {r : Int32} {S' : St} (hA : zans K (some (.int r), S')) {o : Nat} (ho : isRule o) {x2 : Int32} {x3 : Int32} {k e : Int32 → St → Option (Int32 × St)} (hk : ∀ (v : Int32) (S : St), k v S = some (r, S') → J K 51 [(0, .ref o), (1, .ref 1), (2, .int x2), (3, .int v)] [] S) (he : ∀ (v : Int32) (S : St), e v S = some (r, S') → J K 100 [(0, .ref o), (1, .ref 1), (2, .int x2)] [] S) {S : St} (hf : f_X6_read_94 o x2 x3 k e S = some (r, S')) : J K 94 [(0, .ref o), (1, .ref 1), (2, .int x2), (3, .int x3)] [] S := by
  unfold f_X6_read_94 at hf
  refine j_iinc hK (L' := [(3, .int (x3 + (1 : Int32))), (0, .ref o), (1, .ref 1), (2, .int x2)]) dX6_read_94 3 rfl (congrArg (fun y => x3 + y) ic_1) (by decide) rfl ?_
  refine j_goto hK 51 dX6_read_97 (by decide) ?_
  refine j_sub [1, 2, 3, 0] rfl ?_
  exact hk _ _ hf
def f_X6_read_51b (o : Nat) (x2 : Int32) (e : Int32 → St → Option (Int32 × St)) (k : Int32 → St → Option (Int32 × St)) (v : Int32) (S : St) : Option (Int32 × St) := (if x2 ≤ v then e v S else if inb v 80 then lt (gI S 2 v.toNatClampNeg) (fun y2 => (if (gI S o 7) = 0 then bd (f_X6_takesBehindThing o y2 S) (fun r3 S4 => (if r3 = 0 then some (v, S4) else f_X6_read_94 o x2 v k e S4)) else bd (f_X6_takesThing o y2 S) (fun r6 S7 => (if r6 = 0 then some (v, S7) else f_X6_read_94 o x2 v k e S7)))) else none)
theorem t_X6_read_51 {K : CT} (hK : KO K cX6_read RX6 5 6 (some .int)) {r : Int32} {S' : St} (hA : zans K (some (.int r), S')) {o : Nat} (ho : isRule o) {x2 : Int32} {e : Int32 → St → Option (Int32 × St)} (he : ∀ (v : Int32) (S : St), e v S = some (r, S') → J K 100 [(0, .ref o), (1, .ref 1), (2, .int x2)] [] S) : ∀ (n : Nat) (v : Int32) (S : St), lp (f_X6_read_51b o x2 e) n v S = some (r, S') → J K 51 [(0, .ref o), (1, .ref 1), (2, .int x2), (3, .int v)] [] S :=
  lp_J (P := fun (v : Int32) (S : St) => J K 51 [(0, .ref o), (1, .ref 1), (2, .int x2), (3, .int v)] [] S) (fun k hk v S hf => by
    unfold f_X6_read_51b at hf
    refine j_iload_n hK dX6_read_51 3 rfl rfl ?_
    refine j_iload_n hK dX6_read_52 2 rfl rfl ?_
    refine j_icmp_ge hK 100 dX6_read_53 (by decide) (fun hc => ?_) (fun hc => ?_)
    · replace hf := if_1 hc hf
      refine j_sub [0, 1, 2] rfl ?_
      exact he _ _ hf
    · replace hf := if_2 hc hf
      refine j_aload_n hK dX6_read_56 1 rfl rfl ?_
      refine j_getR hK fl_X6_56 dX6_read_57 zo_1 zf_8_0 zr_1_0 ?_
      refine j_iload_n hK dX6_read_60 3 rfl rfl ?_
      obtain ⟨hi1, hf⟩ := gd hf
      refine k_cald hK dX6_read_61 zb_2 hi1 rfl ?_
      refine lt_I hf (fun y2 hf => ?_)
      refine j_istore hK (L' := [(4, .int y2), (0, .ref o), (1, .ref 1), (2, .int x2), (3, .int v)]) dX6_read_62 (by decide) rfl ?_
      refine j_aload_n hK dX6_read_64 1 rfl rfl ?_
      refine j_getI hK fl_X6_35 dX6_read_65 (ru_o ho) zf_6_7 ?_
      refine j_pc (pc' := 68) rfl ?_
      refine j_if_eq hK 83 dX6_read_68 (by decide) (fun hc => ?_) (fun hc => ?_)
      · replace hf := if_1 hc hf
        refine j_aload_n hK dX6_read_83 1 rfl rfl ?_
        refine j_iload hK dX6_read_84 0 rfl ?_
        obtain ⟨r3, S4, h5, hf⟩ := bd_J hf
        refine k_callVi hK (c_X6_takesBehindThing ho h5) dX6_read_86 zclX6 (ru_o ho) ml_X6_63 mi_X6_takesBehindThing mx_X6_takesBehindThing in_X6 mc_X6_takesBehindThing hy_X6_takesBehindThing ⟨by decide, by decide⟩ rfl (Nat.le_of_ble_eq_true rfl) ?_
        refine j_if_ne hK 94 dX6_read_89 (by decide) (fun hc => ?_) (fun hc => ?_)
        · replace hf := if_2 hc hf
          refine j_sub [1, 2, 3, 4] rfl ?_
          exact t_X6_read_94 hK hA ho hk he hf
        · replace hf := if_1 hc hf
          refine j_iload_n hK dX6_read_92 4 rfl rfl ?_
          exact j_iret hK dX6_read_93 rfl (rt_I hA hf)
      · replace hf := if_2 hc hf
        refine j_aload_n hK dX6_read_71 1 rfl rfl ?_
        refine j_iload hK dX6_read_72 0 rfl ?_
        obtain ⟨r6, S7, h8, hf⟩ := bd_J hf
        refine k_callVi hK (c_X6_takesThing ho h8) dX6_read_74 zclX6 (ru_o ho) ml_X6_59 mi_X6_takesThing mx_X6_takesThing in_X6 mc_X6_takesThing hy_X6_takesThing ⟨by decide, by decide⟩ rfl (Nat.le_of_ble_eq_true rfl) ?_
        refine j_if_eq hK 92 dX6_read_77 (by decide) (fun hc => ?_) (fun hc => ?_)
        · replace hf := if_1 hc hf
          refine j_iload_n hK dX6_read_92 4 rfl rfl ?_
          exact j_iret hK dX6_read_93 rfl (rt_I hA hf)
        · replace hf := if_2 hc hf
          refine j_goto hK 94 dX6_read_80 (by decide) ?_
          refine j_sub [1, 2, 3, 4] rfl ?_
          exact t_X6_read_94 hK hA ho hk he hf)
def f_X6_read (o : Nat) (S : St) : Option (Int32 × St) := lt (sI S o 1 (0 : Int32)) (fun S9 => lt (sI S9 o 3 (0 : Int32)) (fun S10 => lt (sI S10 o 4 (0 : Int32)) (fun S11 => lt (sI S11 o 5 (0 : Int32)) (fun S12 => lt (sI S12 o 6 (0 : Int32)) (fun S13 => lt (sI S13 o 7 (1 : Int32)) (fun S14 => (if (gI S14 1 1) = 0 then some ((-1 : Int32), S14) else lt (mnI (gI S14 1 1) (40 : Int32)) (fun y15 => lp (f_X6_read_51b o y15 (fun v16 S17 => (if (gI S17 o 7) = 0 then (if 0 < (gI S17 o 4) then some (y15, S17) else (if (gI S17 1 1) ≤ (40 : Int32) then bd (f_X6_release o (1 : Int32) S17) (fun r18 S19 => some ((-1 : Int32), S19)) else some (y15, S17))) else some (y15, S17)))) FU (0 : Int32) S14))))))))
theorem c_X6_read {o : Nat} (ho : isRule o) {S : St} {r : Int32} {S' : St} (hf : f_X6_read o S = some (r, S')) : zM yX6_read cX6_read 5 6 (some .int) [.ref o, .ref 1] S (some (.int r)) S' := by
  refine zM_of (zpl (by decide)) (Nat.le_of_ble_eq_true rfl) rfl (fun K hK hA => ?_)
  unfold f_X6_read at hf
  refine j_aload_n hK dX6_read_0 0 rfl rfl ?_
  refine j_iconst hK (0 : Int32) dX6_read_1 ic_0 ?_
  refine j_putI hK fl_X6_15 dX6_read_2 (ru_o ho) zf_6_1 ?_
  refine lt_S hf (fun S9 hf => ?_)
  refine j_aload_n hK dX6_read_5 0 rfl rfl ?_
  refine j_iconst hK (0 : Int32) dX6_read_6 ic_0 ?_
  refine j_putI hK fl_X6_23 dX6_read_7 (ru_o ho) zf_6_3 ?_
  refine lt_S hf (fun S10 hf => ?_)
  refine j_aload_n hK dX6_read_10 0 rfl rfl ?_
  refine j_iconst hK (0 : Int32) dX6_read_11 ic_0 ?_
  refine j_pc (pc' := 12) rfl ?_
  refine j_putI hK fl_X6_26 dX6_read_12 (ru_o ho) zf_6_4 ?_
  refine lt_S hf (fun S11 hf => ?_)
  refine j_aload_n hK dX6_read_15 0 rfl rfl ?_
  refine j_iconst hK (0 : Int32) dX6_read_16 ic_0 ?_
  refine j_putI hK fl_X6_29 dX6_read_17 (ru_o ho) zf_6_5 ?_
  refine lt_S hf (fun S12 hf => ?_)
  refine j_aload_n hK dX6_read_20 0 rfl rfl ?_
  refine j_iconst hK (0 : Int32) dX6_read_21 ic_0 ?_
  refine j_putI hK fl_X6_32 dX6_read_22 (ru_o ho) zf_6_6 ?_
  refine lt_S hf (fun S13 hf => ?_)
  refine j_aload_n hK dX6_read_25 0 rfl rfl ?_
  refine j_pc (pc' := 26) rfl ?_
  refine j_iconst hK (1 : Int32) dX6_read_26 ic_1 ?_
  refine j_putZ hK fl_X6_35 dX6_read_27 (ru_o ho) zf_6_7 (Or.inr rfl) ?_
  refine lt_S hf (fun S14 hf => ?_)
  refine j_aload_n hK dX6_read_30 1 rfl rfl ?_
  refine j_getI hK fl_X6_45 dX6_read_31 zo_1 zf_8_1 ?_
  refine j_if_ne hK 39 dX6_read_34 (by decide) (fun hc => ?_) (fun hc => ?_)
  · replace hf := if_2 hc hf
    refine j_aload_n hK dX6_read_39 1 rfl rfl ?_
    refine j_getI hK fl_X6_45 dX6_read_40 zo_1 zf_8_1 ?_
    refine j_bipush hK (40 : Int32) dX6_read_43 bi_40 ?_
    refine j_min hK ml_X6_50 dX6_read_45 (by decide) (Nat.le_of_ble_eq_true rfl) ?_
    refine lt_I hf (fun y15 hf => ?_)
    refine j_istore_n hK (L' := [(2, .int y15), (0, .ref o), (1, .ref 1)]) dX6_read_48 rfl (by decide) rfl ?_
    refine j_iconst hK (0 : Int32) dX6_read_49 ic_0 ?_
    refine j_istore_n hK (L' := [(3, .int (0 : Int32)), (2, .int y15), (0, .ref o), (1, .ref 1)]) dX6_read_50 rfl (by decide) rfl ?_
    refine j_sub [2, 3, 1, 0] rfl ?_
    refine t_X6_read_51 hK hA ho (fun v16 S17 hf => ?_) _ _ _ hf
    refine j_aload_n hK dX6_read_100 0 rfl rfl ?_
    refine j_getI hK fl_X6_35 dX6_read_101 (ru_o ho) zf_6_7 ?_
    refine j_if_ne hK 123 dX6_read_104 (by decide) (fun hc => ?_) (fun hc => ?_)
    · replace hf := if_2 hc hf
      refine j_iload_n hK dX6_read_123 2 rfl rfl ?_
      exact j_iret hK dX6_read_124 rfl (rt_I hA hf)
    · replace hf := if_1 hc hf
      refine j_aload_n hK dX6_read_107 0 rfl rfl ?_
      refine j_getI hK fl_X6_26 dX6_read_108 (ru_o ho) zf_6_4 ?_
      refine j_if_gt hK 123 dX6_read_111 (by decide) (fun hc => ?_) (fun hc => ?_)
      · replace hf := if_1 hc hf
        refine j_iload_n hK dX6_read_123 2 rfl rfl ?_
        exact j_iret hK dX6_read_124 rfl (rt_I hA hf)
      · replace hf := if_2 hc hf
        refine j_aload_n hK dX6_read_114 1 rfl rfl ?_
        refine j_getI hK fl_X6_45 dX6_read_115 zo_1 zf_8_1 ?_
        refine j_bipush hK (40 : Int32) dX6_read_118 bi_40 ?_
        refine j_icmp_le hK 125 dX6_read_120 (by decide) (fun hc => ?_) (fun hc => ?_)
        · replace hf := if_1 hc hf
          refine j_aload_n hK dX6_read_125 0 rfl rfl ?_
          refine j_iconst hK (1 : Int32) dX6_read_126 ic_1 ?_
          obtain ⟨r18, S19, h20, hf⟩ := bd_J hf
          refine k_callVv hK (c_X6_release ho h20) dX6_read_127 zclX6 (ru_o ho) ml_X6_66 mi_X6_release mx_X6_release in_X6 mc_X6_release hy_X6_release ⟨by decide, by decide⟩ rfl (Nat.le_of_ble_eq_true rfl) ?_
          refine j_iconst hK (-1 : Int32) dX6_read_130 ic_m1 ?_
          exact j_iret hK dX6_read_131 rfl (rt_I hA hf)
        · replace hf := if_2 hc hf
          refine j_iload_n hK dX6_read_123 2 rfl rfl ?_
          exact j_iret hK dX6_read_124 rfl (rt_I hA hf)
  · replace hf := if_1 hc hf
    refine j_iconst hK (-1 : Int32) dX6_read_37 ic_m1 ?_
    exact j_iret hK dX6_read_38 rfl (rt_I hA hf)
def f_X10_rule (S : St) : Option (Int32 × St) := if isRule (gI S 0 9).toNatClampNeg then bd (f_X6_read (gI S 0 9).toNatClampNeg S) (fun r2 S3 => lt (sI S3 1 1 (0 : Int32)) (fun S5 => (if r2 = (-1 : Int32) then if isRule (gI S5 0 9).toNatClampNeg then if isRule (gI S5 0 8).toNatClampNeg then lt (sI S5 0 9 (nI (gI S5 0 8).toNatClampNeg)) (fun S8 => lt (sI S8 0 8 (nI (gI S5 0 9).toNatClampNeg)) (fun S9 => some ((0 : Int32), S9))) else none else none else some (((-1 : Int32) - r2), S5)))) else none
theorem c_X10_rule {S : St} {r : Int32} {S' : St} (hf : f_X10_rule S = some (r, S')) : zM yX10_rule cX10_rule 3 7 (some .int) [.ref 0] S (some (.int r)) S' := by
  refine zM_of (zpl (by decide)) (Nat.le_of_ble_eq_true rfl) rfl (fun K hK hA => ?_)
  unfold f_X10_rule at hf
  refine j_aload_n hK dX10_rule_0 0 rfl rfl ?_
  obtain ⟨hr1, hf⟩ := gd hf
  refine j_getD hK fl_X10_74 dX10_rule_1 zo_0 zf_10_9 ?_
  refine j_aload_n hK dX10_rule_4 0 rfl rfl ?_
  refine j_getR hK fl_X10_10 dX10_rule_5 zo_0 zf_10_0 zr_0_0 ?_
  obtain ⟨r2, S3, h4, hf⟩ := bd_J hf
  refine k_callVi hK (c_X6_read hr1 h4) dX10_rule_8 zclX6 (ru_o hr1) ml_X10_112 mi_X6_read mx_X6_read in_X6 mc_X6_read hy_X6_read ⟨by decide, by decide⟩ rfl (Nat.le_of_ble_eq_true rfl) ?_
  refine j_istore_n hK (L' := [(1, .int r2), (0, .ref 0)]) dX10_rule_11 rfl (by decide) rfl ?_
  refine j_aload_n hK dX10_rule_12 1 rfl rfl ?_
  refine j_getR hK fl_X10_10 dX10_rule_13 zo_0 zf_10_0 zr_0_0 ?_
  refine j_pc (pc' := 16) rfl ?_
  refine j_iconst hK (0 : Int32) dX10_rule_16 ic_0 ?_
  refine j_putI hK fl_X10_88 dX10_rule_17 zo_1 zf_8_1 ?_
  refine lt_S hf (fun S5 hf => ?_)
  refine j_iload_n hK dX10_rule_20 0 rfl rfl ?_
  refine j_iconst hK (-1 : Int32) dX10_rule_21 ic_m1 ?_
  refine j_icmp_eq hK 29 dX10_rule_22 (by decide) (fun hc => ?_) (fun hc => ?_)
  · replace hf := if_1 hc hf
    refine j_aload_n hK dX10_rule_29 1 rfl rfl ?_
    obtain ⟨hr6, hf⟩ := gd hf
    refine j_getD hK fl_X10_74 dX10_rule_30 zo_0 zf_10_9 ?_
    refine j_astore_n hK (L' := [(2, .ref (gI S5 0 9).toNatClampNeg), (1, .int r2), (0, .ref 0)]) dX10_rule_33 rfl (by decide) rfl ?_
    refine j_aload_n hK dX10_rule_34 2 rfl rfl ?_
    refine j_aload_n hK dX10_rule_35 2 rfl rfl ?_
    obtain ⟨hr7, hf⟩ := gd hf
    refine j_getD hK fl_X10_70 dX10_rule_36 zo_0 zf_10_8 ?_
    refine j_putD hK fl_X10_74 dX10_rule_39 zo_0 zf_10_9 (ru_lt hr7) ?_
    refine lt_S hf (fun S8 hf => ?_)
    refine j_pc (pc' := 42) rfl ?_
    refine j_aload_n hK dX10_rule_42 2 rfl rfl ?_
    refine j_aload_n hK dX10_rule_43 0 rfl rfl ?_
    refine j_putD hK fl_X10_70 dX10_rule_44 zo_0 zf_10_8 (ru_lt hr6) ?_
    refine lt_S hf (fun S9 hf => ?_)
    refine j_iconst hK (0 : Int32) dX10_rule_47 ic_0 ?_
    exact j_iret hK dX10_rule_48 rfl (rt_I hA hf)
  · replace hf := if_2 hc hf
    refine j_iconst hK (-1 : Int32) dX10_rule_25 ic_m1 ?_
    refine j_iload_n hK dX10_rule_26 0 rfl rfl ?_
    refine j_isub hK dX10_rule_27 ?_
    exact j_iret hK dX10_rule_28 rfl (rt_I hA hf)
def f_X0_has (p1 : Int32) (S : St) : Option (Int32 × St) := (if p1 < 0 then some ((0 : Int32), S) else (if (gI S 3 2) ≤ p1 then some ((0 : Int32), S) else some ((1 : Int32), S)))
theorem c_X0_has {p1 : Int32} {S : St} {r : Int32} {S' : St} (hf : f_X0_has p1 S = some (r, S')) : zM yX0_has cX0_has 2 1 (some .boolean) [.ref 3, .int p1] S (some (.int r)) S' := by
  refine zM_of (zpl (by decide)) (Nat.le_of_ble_eq_true rfl) rfl (fun K hK hA => ?_)
  unfold f_X0_has at hf
  refine j_iload_n hK dX0_has_0 1 rfl rfl ?_
  refine j_if_lt hK 16 dX0_has_1 (by decide) (fun hc => ?_) (fun hc => ?_)
  · replace hf := if_1 hc hf
    refine j_iconst hK (0 : Int32) dX0_has_16 ic_0 ?_
    exact j_zret hK dX0_has_17 rfl rfl (rt_I hA hf)
  · replace hf := if_2 hc hf
    refine j_iload_n hK dX0_has_4 1 rfl rfl ?_
    refine j_aload_n hK dX0_has_5 0 rfl rfl ?_
    refine j_getI hK fl_X0_18 dX0_has_6 zo_3 zf_0_2 ?_
    refine j_icmp_ge hK 16 dX0_has_9 (by decide) (fun hc => ?_) (fun hc => ?_)
    · replace hf := if_1 hc hf
      refine j_iconst hK (0 : Int32) dX0_has_16 ic_0 ?_
      exact j_zret hK dX0_has_17 rfl rfl (rt_I hA hf)
    · replace hf := if_2 hc hf
      refine j_iconst hK (1 : Int32) dX0_has_12 ic_1 ?_
      refine j_goto hK 17 dX0_has_13 (by decide) ?_
      exact j_zret hK dX0_has_17 rfl rfl (rt_I hA hf)
def f_X0_isOpen (p1 : Int32) (S : St) : Option (Int32 × St) := (if (((gI S 6 3) >>> (p1 &&& 31)) &&& (1 : Int32)) = (1 : Int32) then some ((1 : Int32), S) else some ((0 : Int32), S))
theorem c_X0_isOpen {p1 : Int32} {S : St} {r : Int32} {S' : St} (hf : f_X0_isOpen p1 S = some (r, S')) : zM yX0_isOpen cX0_isOpen 2 1 (some .boolean) [.ref 3, .int p1] S (some (.int r)) S' := by
  refine zM_of (zpl (by decide)) (Nat.le_of_ble_eq_true rfl) rfl (fun K hK hA => ?_)
  unfold f_X0_isOpen at hf
  refine j_aload_n hK dX0_isOpen_0 0 rfl rfl ?_
  refine j_getR hK fl_X0_25 dX0_isOpen_1 zo_3 zf_0_3 zr_3_3 ?_
  refine j_getI hK fl_X0_38 dX0_isOpen_4 zo_6 zf_7_3 ?_
  refine j_iload_n hK dX0_isOpen_7 1 rfl rfl ?_
  refine j_ishr hK dX0_isOpen_8 ?_
  refine j_iconst hK (1 : Int32) dX0_isOpen_9 ic_1 ?_
  refine j_iand hK dX0_isOpen_10 ?_
  refine j_iconst hK (1 : Int32) dX0_isOpen_11 ic_1 ?_
  refine j_pc (pc' := 12) rfl ?_
  refine j_icmp_ne hK 19 dX0_isOpen_12 (by decide) (fun hc => ?_) (fun hc => ?_)
  · replace hf := if_2 hc hf
    refine j_iconst hK (0 : Int32) dX0_isOpen_19 ic_0 ?_
    exact j_zret hK dX0_isOpen_20 rfl rfl (rt_I hA hf)
  · replace hf := if_1 hc hf
    refine j_iconst hK (1 : Int32) dX0_isOpen_15 ic_1 ?_
    refine j_goto hK 20 dX0_isOpen_16 (by decide) ?_
    exact j_zret hK dX0_isOpen_20 rfl rfl (rt_I hA hf)
def f_X10_passage (p1 : Int32) (p2 : Int32) (S : St) : Option (Option Int32 × St) := bd (f_X0_has p1 S) (fun r1 S2 => (if r1 = 0 then some (none, S2) else (if p2 = (0 : Int32) then if inb p1 12 then some (some (gI S2 4 p1.toNatClampNeg), S2) else none else (if p2 = (1 : Int32) then if inb p1 12 then some (some (gI S2 5 p1.toNatClampNeg), S2) else none else (if p2 = (2 : Int32) then if inb p1 12 then some (some (gI S2 7 p1.toNatClampNeg), S2) else none else (if p2 = (3 : Int32) then if inb p1 12 then some (some (gI S2 8 p1.toNatClampNeg), S2) else none else (if p2 = (4 : Int32) then if inb p1 12 then some (some (gI S2 9 p1.toNatClampNeg), S2) else none else (if p2 = (5 : Int32) then bd (f_X0_isOpen p1 S2) (fun r15 S16 => (if r15 = 0 then some (some (0 : Int32), S16) else some (some (1 : Int32), S16))) else some (none, S2)))))))))
theorem c_X10_passage {p1 : Int32} {p2 : Int32} {S : St} {r : Option Int32} {S' : St} (hf : f_X10_passage p1 p2 S = some (r, S')) : zMX yX10_passage cX10_passage 3 6 (some .int) [.ref 0, .int p1, .int p2] S (r.map (fun v => some (.int v))) S' := by
  refine zMX_of (by decide) (Nat.le_of_ble_eq_true rfl) rfl (fun K hK hA => ?_)
  unfold f_X10_passage at hf
  refine j_aload_n hK dX10_passage_0 0 rfl rfl ?_
  refine j_getR hK fl_X10_19 dX10_passage_1 zo_0 zf_10_1 zr_0_1 ?_
  refine j_iload_n hK dX10_passage_4 1 rfl rfl ?_
  obtain ⟨r1, S2, h3, hf⟩ := bd_J hf
  refine k_callVi hK (c_X0_has h3) dX10_passage_5 zclX0 zo_3 ml_X10_116 mi_X0_has mx_X0_has in_X0 mc_X0_has hy_X0_has ⟨by decide, by decide⟩ rfl (Nat.le_of_ble_eq_true rfl) ?_
  refine j_if_ne hK 19 dX10_passage_8 (by decide) (fun hc => ?_) (fun hc => ?_)
  · replace hf := if_2 hc hf
    refine j_iload_n hK dX10_passage_19 2 rfl rfl ?_
    by_cases hs4 : p2 = (0 : Int32)
    · replace hf := if_1 hs4 hf
      refine j_tabC hK (0 : Int32) 60 dX10_passage_20 hs4 (by decide) rfl (by decide) ?_
      refine j_aload_n hK dX10_passage_60 0 rfl rfl ?_
      refine j_getR hK fl_X10_19 dX10_passage_61 zo_0 zf_10_1 zr_0_1 ?_
      refine j_getR hK fl_X10_123 dX10_passage_64 zo_3 zf_0_0 zr_3_0 ?_
      refine j_iload_n hK dX10_passage_67 1 rfl rfl ?_
      obtain ⟨hi5, hf⟩ := gd hf
      refine k_iald hK dX10_passage_68 zb_4 hi5 rfl ?_
      exact j_xiret hK dX10_passage_69 rfl (rt_XI hA hf)
    · replace hf := if_2 hs4 hf
      by_cases hs6 : p2 = (1 : Int32)
      · replace hf := if_1 hs6 hf
        refine j_tabC hK (1 : Int32) 70 dX10_passage_20 hs6 (by decide) rfl (by decide) ?_
        refine j_aload_n hK dX10_passage_70 0 rfl rfl ?_
        refine j_getR hK fl_X10_19 dX10_passage_71 zo_0 zf_10_1 zr_0_1 ?_
        refine j_getR hK fl_X10_126 dX10_passage_74 zo_3 zf_0_1 zr_3_1 ?_
        refine j_iload_n hK dX10_passage_77 1 rfl rfl ?_
        obtain ⟨hi7, hf⟩ := gd hf
        refine k_iald hK dX10_passage_78 zb_5 hi7 rfl ?_
        exact j_xiret hK dX10_passage_79 rfl (rt_XI hA hf)
      · replace hf := if_2 hs6 hf
        by_cases hs8 : p2 = (2 : Int32)
        · replace hf := if_1 hs8 hf
          refine j_tabC hK (2 : Int32) 80 dX10_passage_20 hs8 (by decide) rfl (by decide) ?_
          refine j_aload_n hK dX10_passage_80 0 rfl rfl ?_
          refine j_getR hK fl_X10_19 dX10_passage_81 zo_0 zf_10_1 zr_0_1 ?_
          refine j_getR hK fl_X10_129 dX10_passage_84 zo_3 zf_0_3 zr_3_3 ?_
          refine j_getR hK fl_X10_133 dX10_passage_87 zo_6 zf_7_0 zr_6_0 ?_
          refine j_iload_n hK dX10_passage_90 1 rfl rfl ?_
          obtain ⟨hi9, hf⟩ := gd hf
          refine k_iald hK dX10_passage_91 zb_7 hi9 rfl ?_
          exact j_xiret hK dX10_passage_92 rfl (rt_XI hA hf)
        · replace hf := if_2 hs8 hf
          by_cases hs10 : p2 = (3 : Int32)
          · replace hf := if_1 hs10 hf
            refine j_tabC hK (3 : Int32) 93 dX10_passage_20 hs10 (by decide) rfl (by decide) ?_
            refine j_aload_n hK dX10_passage_93 0 rfl rfl ?_
            refine j_getR hK fl_X10_19 dX10_passage_94 zo_0 zf_10_1 zr_0_1 ?_
            refine j_getR hK fl_X10_129 dX10_passage_97 zo_3 zf_0_3 zr_3_3 ?_
            refine j_getR hK fl_X10_138 dX10_passage_100 zo_6 zf_7_1 zr_6_1 ?_
            refine j_iload_n hK dX10_passage_103 1 rfl rfl ?_
            obtain ⟨hi11, hf⟩ := gd hf
            refine k_iald hK dX10_passage_104 zb_8 hi11 rfl ?_
            exact j_xiret hK dX10_passage_105 rfl (rt_XI hA hf)
          · replace hf := if_2 hs10 hf
            by_cases hs12 : p2 = (4 : Int32)
            · replace hf := if_1 hs12 hf
              refine j_tabC hK (4 : Int32) 106 dX10_passage_20 hs12 (by decide) rfl (by decide) ?_
              refine j_aload_n hK dX10_passage_106 0 rfl rfl ?_
              refine j_getR hK fl_X10_19 dX10_passage_107 zo_0 zf_10_1 zr_0_1 ?_
              refine j_getR hK fl_X10_129 dX10_passage_110 zo_3 zf_0_3 zr_3_3 ?_
              refine j_getR hK fl_X10_141 dX10_passage_113 zo_6 zf_7_2 zr_6_2 ?_
              refine j_iload_n hK dX10_passage_116 1 rfl rfl ?_
              obtain ⟨hi13, hf⟩ := gd hf
              refine k_iald hK dX10_passage_117 zb_9 hi13 rfl ?_
              exact j_xiret hK dX10_passage_118 rfl (rt_XI hA hf)
            · replace hf := if_2 hs12 hf
              by_cases hs14 : p2 = (5 : Int32)
              · replace hf := if_1 hs14 hf
                refine j_tabC hK (5 : Int32) 119 dX10_passage_20 hs14 (by decide) rfl (by decide) ?_
                refine j_aload_n hK dX10_passage_119 0 rfl rfl ?_
                refine j_getR hK fl_X10_19 dX10_passage_120 zo_0 zf_10_1 zr_0_1 ?_
                refine j_iload_n hK dX10_passage_123 1 rfl rfl ?_
                obtain ⟨r15, S16, h17, hf⟩ := bd_J hf
                refine k_callVi hK (c_X0_isOpen h17) dX10_passage_124 zclX0 zo_3 ml_X10_144 mi_X0_isOpen mx_X0_isOpen in_X0 mc_X0_isOpen hy_X0_isOpen ⟨by decide, by decide⟩ rfl (Nat.le_of_ble_eq_true rfl) ?_
                refine j_if_eq hK 134 dX10_passage_127 (by decide) (fun hc => ?_) (fun hc => ?_)
                · replace hf := if_1 hc hf
                  refine j_iconst hK (0 : Int32) dX10_passage_134 ic_0 ?_
                  exact j_xiret hK dX10_passage_135 rfl (rt_XI hA hf)
                · replace hf := if_2 hc hf
                  refine j_iconst hK (1 : Int32) dX10_passage_130 ic_1 ?_
                  refine j_goto hK 135 dX10_passage_131 (by decide) ?_
                  exact j_xiret hK dX10_passage_135 rfl (rt_XI hA hf)
              · replace hf := if_2 hs14 hf
                refine j_tabOut hK 136 dX10_passage_20 (by have q := And.intro (ne_toInt 0 (by decide) hs4) (And.intro (ne_toInt 1 (by decide) hs6) (And.intro (ne_toInt 2 (by decide) hs8) (And.intro (ne_toInt 3 (by decide) hs10) (And.intro (ne_toInt 4 (by decide) hs12) (And.intro (ne_toInt 5 (by decide) hs14) trivial))))); omega) (by decide) ?_
                exact j_throw hK dX10_passage_136 dX10_passage_139 dX10_passage_140 dX10_passage_143 (by decide) (Nat.le_of_ble_eq_true rfl) (rt_XIt hA hf)
  · replace hf := if_1 hc hf
    exact j_throw hK dX10_passage_11 dX10_passage_14 dX10_passage_15 dX10_passage_18 (by decide) (Nat.le_of_ble_eq_true rfl) (rt_XIt hA hf)
def f_X10_isCavern (p0 : Int32) (S : St) : Option (Int32 × St) := (if p0 < 0 then some ((0 : Int32), S) else (if (8 : Int32) ≤ p0 then some ((0 : Int32), S) else some ((1 : Int32), S)))
theorem c_X10_isCavern {p0 : Int32} {S : St} {r : Int32} {S' : St} (hf : f_X10_isCavern p0 S = some (r, S')) : zM yX10_isCavern cX10_isCavern 1 1 (some .boolean) [.int p0] S (some (.int r)) S' := by
  refine zM_of (zpl (by decide)) (Nat.le_of_ble_eq_true rfl) rfl (fun K hK hA => ?_)
  unfold f_X10_isCavern at hf
  refine j_iload_n hK dX10_isCavern_0 0 rfl rfl ?_
  refine j_if_lt hK 14 dX10_isCavern_1 (by decide) (fun hc => ?_) (fun hc => ?_)
  · replace hf := if_1 hc hf
    refine j_iconst hK (0 : Int32) dX10_isCavern_14 ic_0 ?_
    exact j_zret hK dX10_isCavern_15 rfl rfl (rt_I hA hf)
  · replace hf := if_2 hc hf
    refine j_iload_n hK dX10_isCavern_4 0 rfl rfl ?_
    refine j_bipush hK (8 : Int32) dX10_isCavern_5 bi_8 ?_
    refine j_icmp_ge hK 14 dX10_isCavern_7 (by decide) (fun hc => ?_) (fun hc => ?_)
    · replace hf := if_1 hc hf
      refine j_iconst hK (0 : Int32) dX10_isCavern_14 ic_0 ?_
      exact j_zret hK dX10_isCavern_15 rfl rfl (rt_I hA hf)
    · replace hf := if_2 hc hf
      refine j_iconst hK (1 : Int32) dX10_isCavern_10 ic_1 ?_
      refine j_goto hK 15 dX10_isCavern_11 (by decide) ?_
      exact j_zret hK dX10_isCavern_15 rfl rfl (rt_I hA hf)
def f_X0_isEnd_20 (S : St) : Option (Int32 × St) := some ((1 : Int32), S)
theorem t_X0_isEnd_20 {K : CT} (hK : KO K cX0_isEnd RX0 3 1 (some .boolean)) {r : Int32} {S' : St} (hA : zans K (some (.int r), S')) {S : St} (hf : f_X0_isEnd_20  S = some (r, S')) : J K 20 [] [] S := by
  unfold f_X0_isEnd_20 at hf
  refine j_iconst hK (1 : Int32) dX0_isEnd_20 ic_1 ?_
  refine j_goto hK 25 dX0_isEnd_21 (by decide) ?_
  exact j_zret hK dX0_isEnd_25 rfl rfl (rt_I hA hf)
def f_X0_isEnd (p1 : Int32) (p2 : Int32) (S : St) : Option (Int32 × St) := if inb p2 12 then (if (gI S 4 p2.toNatClampNeg) = p1 then f_X0_isEnd_20  S else if inb p2 12 then (if (gI S 5 p2.toNatClampNeg) = p1 then f_X0_isEnd_20  S else some ((0 : Int32), S)) else none) else none
theorem c_X0_isEnd {p1 : Int32} {p2 : Int32} {S : St} {r : Int32} {S' : St} (hf : f_X0_isEnd p1 p2 S = some (r, S')) : zM yX0_isEnd cX0_isEnd 3 1 (some .boolean) [.ref 3, .int p1, .int p2] S (some (.int r)) S' := by
  refine zM_of (zpl (by decide)) (Nat.le_of_ble_eq_true rfl) rfl (fun K hK hA => ?_)
  unfold f_X0_isEnd at hf
  refine j_aload_n hK dX0_isEnd_0 0 rfl rfl ?_
  refine j_getR hK fl_X0_9 dX0_isEnd_1 zo_3 zf_0_0 zr_3_0 ?_
  refine j_iload_n hK dX0_isEnd_4 2 rfl rfl ?_
  obtain ⟨hi1, hf⟩ := gd hf
  refine k_iald hK dX0_isEnd_5 zb_4 hi1 rfl ?_
  refine j_iload_n hK dX0_isEnd_6 1 rfl rfl ?_
  refine j_icmp_eq hK 20 dX0_isEnd_7 (by decide) (fun hc => ?_) (fun hc => ?_)
  · replace hf := if_1 hc hf
    refine j_sub [] rfl ?_
    exact t_X0_isEnd_20 hK hA  hf
  · replace hf := if_2 hc hf
    refine j_aload_n hK dX0_isEnd_10 0 rfl rfl ?_
    refine j_getR hK fl_X0_15 dX0_isEnd_11 zo_3 zf_0_1 zr_3_1 ?_
    refine j_iload_n hK dX0_isEnd_14 2 rfl rfl ?_
    obtain ⟨hi2, hf⟩ := gd hf
    refine k_iald hK dX0_isEnd_15 zb_5 hi2 rfl ?_
    refine j_iload_n hK dX0_isEnd_16 1 rfl rfl ?_
    refine j_icmp_ne hK 24 dX0_isEnd_17 (by decide) (fun hc => ?_) (fun hc => ?_)
    · replace hf := if_2 hc hf
      refine j_iconst hK (0 : Int32) dX0_isEnd_24 ic_0 ?_
      exact j_zret hK dX0_isEnd_25 rfl rfl (rt_I hA hf)
    · replace hf := if_1 hc hf
      refine j_sub [] rfl ?_
      exact t_X0_isEnd_20 hK hA  hf
def f_X0_endingAt_27 (x1 : Int32) (x2 : Int32) (x3 : Int32) (k e : Int32 × Int32 → St → Option (Int32 × St)) (S : St) : Option (Int32 × St) := k (x2, (x3 + (1 : Int32))) S
theorem t_X0_endingAt_27 {K : CT} (hK : KO K cX0_endingAt RX0 4 2 (some .int)) {r : Int32} {S' : St} (hA : zans K (some (.int r), S')) {x1 : Int32} {x2 : Int32} {x3 : Int32} {k e : Int32 × Int32 → St → Option (Int32 × St)} (hk : ∀ (v : Int32 × Int32) (S : St), k v S = some (r, S') → J K 4 [(0, .ref 3), (1, .int x1), (2, .int v.1), (3, .int v.2)] [] S) (he : ∀ (v : Int32 × Int32) (S : St), e v S = some (r, S') → J K 33 [(2, .int v.1)] [] S) {S : St} (hf : f_X0_endingAt_27 x1 x2 x3 k e S = some (r, S')) : J K 27 [(0, .ref 3), (1, .int x1), (2, .int x2), (3, .int x3)] [] S := by
  unfold f_X0_endingAt_27 at hf
  refine j_iinc hK (L' := [(3, .int (x3 + (1 : Int32))), (0, .ref 3), (1, .int x1), (2, .int x2)]) dX0_endingAt_27 3 rfl (congrArg (fun y => x3 + y) ic_1) (by decide) rfl ?_
  refine j_goto hK 4 dX0_endingAt_30 (by decide) ?_
  refine j_sub [1, 2, 3, 0] rfl ?_
  exact hk _ _ hf
def f_X0_endingAt_4b (x1 : Int32) (e : Int32 × Int32 → St → Option (Int32 × St)) (k : Int32 × Int32 → St → Option (Int32 × St)) (v : Int32 × Int32) (S : St) : Option (Int32 × St) := (if (gI S 3 2) ≤ v.2 then e (v.1, v.2) S else bd (f_X0_isEnd x1 v.2 S) (fun r1 S2 => (if r1 = 0 then f_X0_endingAt_27 x1 v.1 v.2 k e S2 else lt (v.1 ||| ((1 : Int32) <<< (v.2 &&& 31))) (fun y4 => f_X0_endingAt_27 x1 y4 v.2 k e S2))))
theorem t_X0_endingAt_4 {K : CT} (hK : KO K cX0_endingAt RX0 4 2 (some .int)) {r : Int32} {S' : St} (hA : zans K (some (.int r), S')) {x1 : Int32} {e : Int32 × Int32 → St → Option (Int32 × St)} (he : ∀ (v : Int32 × Int32) (S : St), e v S = some (r, S') → J K 33 [(2, .int v.1)] [] S) : ∀ (n : Nat) (v : Int32 × Int32) (S : St), lp (f_X0_endingAt_4b x1 e) n v S = some (r, S') → J K 4 [(0, .ref 3), (1, .int x1), (2, .int v.1), (3, .int v.2)] [] S :=
  lp_J (P := fun (v : Int32 × Int32) (S : St) => J K 4 [(0, .ref 3), (1, .int x1), (2, .int v.1), (3, .int v.2)] [] S) (fun k hk v S hf => by
    unfold f_X0_endingAt_4b at hf
    refine j_iload_n hK dX0_endingAt_4 3 rfl rfl ?_
    refine j_aload_n hK dX0_endingAt_5 0 rfl rfl ?_
    refine j_getI hK fl_X0_18 dX0_endingAt_6 zo_3 zf_0_2 ?_
    refine j_icmp_ge hK 33 dX0_endingAt_9 (by decide) (fun hc => ?_) (fun hc => ?_)
    · replace hf := if_1 hc hf
      refine j_sub [2] rfl ?_
      exact he _ _ hf
    · replace hf := if_2 hc hf
      refine j_aload_n hK dX0_endingAt_12 0 rfl rfl ?_
      refine j_iload_n hK dX0_endingAt_13 1 rfl rfl ?_
      refine j_iload_n hK dX0_endingAt_14 3 rfl rfl ?_
      obtain ⟨r1, S2, h3, hf⟩ := bd_J hf
      refine k_callVi hK (c_X0_isEnd h3) dX0_endingAt_15 zclX0 zo_3 ml_X0_41 mi_X0_isEnd mx_X0_isEnd in_X0 mc_X0_isEnd hy_X0_isEnd ⟨by decide, by decide⟩ rfl (Nat.le_of_ble_eq_true rfl) ?_
      refine j_if_eq hK 27 dX0_endingAt_18 (by decide) (fun hc => ?_) (fun hc => ?_)
      · replace hf := if_1 hc hf
        exact t_X0_endingAt_27 hK hA hk he hf
      · replace hf := if_2 hc hf
        refine j_iload_n hK dX0_endingAt_21 2 rfl rfl ?_
        refine j_iconst hK (1 : Int32) dX0_endingAt_22 ic_1 ?_
        refine j_iload_n hK dX0_endingAt_23 3 rfl rfl ?_
        refine j_ishl hK dX0_endingAt_24 ?_
        refine j_ior hK dX0_endingAt_25 ?_
        refine lt_I hf (fun y4 hf => ?_)
        refine j_istore_n hK (L' := [(2, .int y4), (0, .ref 3), (1, .int x1), (3, .int v.2)]) dX0_endingAt_26 rfl (by decide) rfl ?_
        refine j_sub [1, 2, 0, 3] rfl ?_
        exact t_X0_endingAt_27 hK hA hk he hf)
def f_X0_endingAt (p1 : Int32) (S : St) : Option (Int32 × St) := lp (f_X0_endingAt_4b p1 (fun v5 S6 => some (v5.1, S6))) FU ((0 : Int32), (0 : Int32)) S
theorem c_X0_endingAt {p1 : Int32} {S : St} {r : Int32} {S' : St} (hf : f_X0_endingAt p1 S = some (r, S')) : zM yX0_endingAt cX0_endingAt 4 2 (some .int) [.ref 3, .int p1] S (some (.int r)) S' := by
  refine zM_of (zpl (by decide)) (Nat.le_of_ble_eq_true rfl) rfl (fun K hK hA => ?_)
  unfold f_X0_endingAt at hf
  refine j_iconst hK (0 : Int32) dX0_endingAt_0 ic_0 ?_
  refine j_istore_n hK (L' := [(2, .int (0 : Int32)), (0, .ref 3), (1, .int p1)]) dX0_endingAt_1 rfl (by decide) rfl ?_
  refine j_iconst hK (0 : Int32) dX0_endingAt_2 ic_0 ?_
  refine j_istore_n hK (L' := [(3, .int (0 : Int32)), (2, .int (0 : Int32)), (0, .ref 3), (1, .int p1)]) dX0_endingAt_3 rfl (by decide) rfl ?_
  refine j_sub [2, 3, 1, 0] rfl ?_
  refine t_X0_endingAt_4 hK hA  (fun v5 S6 hf => ?_) _ _ _ hf
  refine j_iload_n hK dX0_endingAt_33 0 rfl rfl ?_
  exact j_iret hK dX0_endingAt_34 rfl (rt_I hA hf)
def f_X0_openOf (p1 : Int32) (S : St) : Option (Int32 × St) := bd (f_X0_endingAt p1 S) (fun r1 S2 => some ((r1 &&& (gI S2 6 3)), S2))
theorem c_X0_openOf {p1 : Int32} {S : St} {r : Int32} {S' : St} (hf : f_X0_openOf p1 S = some (r, S')) : zM yX0_openOf cX0_openOf 2 3 (some .int) [.ref 3, .int p1] S (some (.int r)) S' := by
  refine zM_of (zpl (by decide)) (Nat.le_of_ble_eq_true rfl) rfl (fun K hK hA => ?_)
  unfold f_X0_openOf at hf
  refine j_aload_n hK dX0_openOf_0 0 rfl rfl ?_
  refine j_iload_n hK dX0_openOf_1 1 rfl rfl ?_
  obtain ⟨r1, S2, h3, hf⟩ := bd_J hf
  refine k_callVi hK (c_X0_endingAt h3) dX0_openOf_2 zclX0 zo_3 ml_X0_45 mi_X0_endingAt mx_X0_endingAt in_X0 mc_X0_endingAt hy_X0_endingAt ⟨by decide, by decide⟩ rfl (Nat.le_of_ble_eq_true rfl) ?_
  refine j_aload_n hK dX0_openOf_5 0 rfl rfl ?_
  refine j_getR hK fl_X0_25 dX0_openOf_6 zo_3 zf_0_3 zr_3_3 ?_
  refine j_getI hK fl_X0_38 dX0_openOf_9 zo_6 zf_7_3 ?_
  refine j_iand hK dX0_openOf_12 ?_
  exact j_iret hK dX0_openOf_13 rfl (rt_I hA hf)
def f_X9_shorten (p1 : Int32) (p2 : Int32) (p3 : Int32) (S : St) : Option (Unit × St) := if inb ((p1 * (8 : Int32)) + p2) 64 then if inb ((p1 * (8 : Int32)) + p2) 64 then lt (sI S 99 ((p1 * (8 : Int32)) + p2).toNatClampNeg (mnI (gI S 99 ((p1 * (8 : Int32)) + p2).toNatClampNeg) p3)) (fun S3 => some ((), S3)) else none else none
theorem c_X9_shorten {p1 : Int32} {p2 : Int32} {p3 : Int32} {S : St} {r : Unit} {S' : St} (hf : f_X9_shorten p1 p2 p3 S = some (r, S')) : zM yX9_shorten cX9_shorten 4 1 none [.ref 98, .int p1, .int p2, .int p3] S (none) S' := by
  refine zM_of (zpl (by decide)) (Nat.le_of_ble_eq_true rfl) rfl (fun K hK hA => ?_)
  unfold f_X9_shorten at hf
  refine j_aload_n hK dX9_shorten_0 0 rfl rfl ?_
  refine j_getR hK fl_X9_15 dX9_shorten_1 zo_98 zf_9_1 zr_98_1 ?_
  refine j_iload_n hK dX9_shorten_4 1 rfl rfl ?_
  refine j_bipush hK (8 : Int32) dX9_shorten_5 bi_8 ?_
  refine j_imul hK dX9_shorten_7 ?_
  refine j_iload_n hK dX9_shorten_8 2 rfl rfl ?_
  refine j_iadd hK dX9_shorten_9 ?_
  refine j_aload_n hK dX9_shorten_10 0 rfl rfl ?_
  refine j_pc (pc' := 11) rfl ?_
  refine j_getR hK fl_X9_15 dX9_shorten_11 zo_98 zf_9_1 zr_98_1 ?_
  refine j_iload_n hK dX9_shorten_14 1 rfl rfl ?_
  refine j_bipush hK (8 : Int32) dX9_shorten_15 bi_8 ?_
  refine j_imul hK dX9_shorten_17 ?_
  refine j_iload_n hK dX9_shorten_18 2 rfl rfl ?_
  refine j_iadd hK dX9_shorten_19 ?_
  obtain ⟨hi1, hf⟩ := gd hf
  refine k_iald hK dX9_shorten_20 zb_99 hi1 rfl ?_
  refine j_iload_n hK dX9_shorten_21 3 rfl rfl ?_
  refine j_pc (pc' := 22) rfl ?_
  refine j_min hK ml_X9_55 dX9_shorten_22 (by decide) (Nat.le_of_ble_eq_true rfl) ?_
  obtain ⟨hi2, hf⟩ := gd hf
  refine k_iast hK dX9_shorten_25 zb_99 hi2 rfl ?_
  refine lt_S hf (fun S3 hf => ?_)
  exact j_vret hK dX9_shorten_26 rfl (rt_V hA hf)
def f_X9_farOf (p1 : Int32) (p2 : Int32) (S : St) : Option (Int32 × St) := if inb ((p1 * (8 : Int32)) + p2) 64 then some ((gI S 99 ((p1 * (8 : Int32)) + p2).toNatClampNeg), S) else none
theorem c_X9_farOf {p1 : Int32} {p2 : Int32} {S : St} {r : Int32} {S' : St} (hf : f_X9_farOf p1 p2 S = some (r, S')) : zM yX9_farOf cX9_farOf 3 1 (some .int) [.ref 98, .int p1, .int p2] S (some (.int r)) S' := by
  refine zM_of (zpl (by decide)) (Nat.le_of_ble_eq_true rfl) rfl (fun K hK hA => ?_)
  unfold f_X9_farOf at hf
  refine j_aload_n hK dX9_farOf_0 0 rfl rfl ?_
  refine j_getR hK fl_X9_15 dX9_farOf_1 zo_98 zf_9_1 zr_98_1 ?_
  refine j_iload_n hK dX9_farOf_4 1 rfl rfl ?_
  refine j_bipush hK (8 : Int32) dX9_farOf_5 bi_8 ?_
  refine j_imul hK dX9_farOf_7 ?_
  refine j_iload_n hK dX9_farOf_8 2 rfl rfl ?_
  refine j_iadd hK dX9_farOf_9 ?_
  obtain ⟨hi1, hf⟩ := gd hf
  refine k_iald hK dX9_farOf_10 zb_99 hi1 rfl ?_
  refine j_pc (pc' := 11) rfl ?_
  exact j_iret hK dX9_farOf_11 rfl (rt_I hA hf)
def f_X9_measure_167b (x1 : Int32) (x2 : Int32) (e : Int32 → St → Option (Unit × St)) (k : Int32 → St → Option (Unit × St)) (v : Int32) (S : St) : Option (Unit × St) := (if (8 : Int32) ≤ v then e v S else bd (f_X9_farOf x2 x1 S) (fun r1 S2 => bd (f_X9_farOf x1 v S2) (fun r4 S5 => bd (f_X9_shorten x2 v (r1 + r4) S5) (fun r7 S8 => k (v + (1 : Int32)) S8))))
theorem t_X9_measure_167 {K : CT} (hK : KO K cX9_measure RX9 4 2 none) {r : Unit} {S' : St} (hA : zans K (none, S')) {x1 : Int32} {x2 : Int32} {e : Int32 → St → Option (Unit × St)} (he : ∀ (v : Int32) (S : St), e v S = some (r, S') → J K 198 [(0, .ref 98), (1, .int x1), (2, .int x2)] [] S) : ∀ (n : Nat) (v : Int32) (S : St), lp (f_X9_measure_167b x1 x2 e) n v S = some (r, S') → J K 167 [(0, .ref 98), (1, .int x1), (2, .int x2), (3, .int v)] [] S :=
  lp_J (P := fun (v : Int32) (S : St) => J K 167 [(0, .ref 98), (1, .int x1), (2, .int x2), (3, .int v)] [] S) (fun k hk v S hf => by
    unfold f_X9_measure_167b at hf
    refine j_iload_n hK dX9_measure_167 3 rfl rfl ?_
    refine j_bipush hK (8 : Int32) dX9_measure_168 bi_8 ?_
    refine j_icmp_ge hK 198 dX9_measure_170 (by decide) (fun hc => ?_) (fun hc => ?_)
    · replace hf := if_1 hc hf
      refine j_sub [0, 1, 2] rfl ?_
      exact he _ _ hf
    · replace hf := if_2 hc hf
      refine j_aload_n hK dX9_measure_173 0 rfl rfl ?_
      refine j_iload_n hK dX9_measure_174 2 rfl rfl ?_
      refine j_iload_n hK dX9_measure_175 3 rfl rfl ?_
      refine j_aload_n hK dX9_measure_176 0 rfl rfl ?_
      refine j_iload_n hK dX9_measure_177 2 rfl rfl ?_
      refine j_iload_n hK dX9_measure_178 1 rfl rfl ?_
      obtain ⟨r1, S2, h3, hf⟩ := bd_J hf
      refine k_callVi hK (c_X9_farOf h3) dX9_measure_179 zclX9 zo_98 ml_X9_51 mi_X9_farOf mx_X9_farOf in_X9 mc_X9_farOf hy_X9_farOf ⟨by decide, by decide⟩ rfl (Nat.le_of_ble_eq_true rfl) ?_
      refine j_pc (pc' := 182) rfl ?_
      refine j_aload_n hK dX9_measure_182 0 rfl rfl ?_
      refine j_iload_n hK dX9_measure_183 1 rfl rfl ?_
      refine j_iload_n hK dX9_measure_184 3 rfl rfl ?_
      obtain ⟨r4, S5, h6, hf⟩ := bd_J hf
      refine k_callVi hK (c_X9_farOf h6) dX9_measure_185 zclX9 zo_98 ml_X9_51 mi_X9_farOf mx_X9_farOf in_X9 mc_X9_farOf hy_X9_farOf ⟨by decide, by decide⟩ rfl (Nat.le_of_ble_eq_true rfl) ?_
      refine j_iadd hK dX9_measure_188 ?_
      obtain ⟨r7, S8, h9, hf⟩ := bd_J hf
      refine k_callVv hK (c_X9_shorten h9) dX9_measure_189 zclX9 zo_98 ml_X9_47 mi_X9_shorten mx_X9_shorten in_X9 mc_X9_shorten hy_X9_shorten ⟨by decide, by decide⟩ rfl (Nat.le_of_ble_eq_true rfl) ?_
      refine j_iinc hK (L' := [(3, .int (v + (1 : Int32))), (0, .ref 98), (1, .int x1), (2, .int x2)]) dX9_measure_192 3 rfl (congrArg (fun y => v + y) ic_1) (by decide) rfl ?_
      refine j_goto hK 167 dX9_measure_195 (by decide) ?_
      refine j_sub [1, 2, 3, 0] rfl ?_
      exact hk _ _ hf)
def f_X9_measure_159b (x1 : Int32) (e : Int32 → St → Option (Unit × St)) (k : Int32 → St → Option (Unit × St)) (v : Int32) (S : St) : Option (Unit × St) := (if (8 : Int32) ≤ v then e v S else lp (f_X9_measure_167b x1 v (fun v10 S11 => k (v + (1 : Int32)) S11)) FU (0 : Int32) S)
theorem t_X9_measure_159 {K : CT} (hK : KO K cX9_measure RX9 4 2 none) {r : Unit} {S' : St} (hA : zans K (none, S')) {x1 : Int32} {e : Int32 → St → Option (Unit × St)} (he : ∀ (v : Int32) (S : St), e v S = some (r, S') → J K 204 [(0, .ref 98), (1, .int x1)] [] S) : ∀ (n : Nat) (v : Int32) (S : St), lp (f_X9_measure_159b x1 e) n v S = some (r, S') → J K 159 [(0, .ref 98), (1, .int x1), (2, .int v)] [] S :=
  lp_J (P := fun (v : Int32) (S : St) => J K 159 [(0, .ref 98), (1, .int x1), (2, .int v)] [] S) (fun k hk v S hf => by
    unfold f_X9_measure_159b at hf
    refine j_iload_n hK dX9_measure_159 2 rfl rfl ?_
    refine j_bipush hK (8 : Int32) dX9_measure_160 bi_8 ?_
    refine j_icmp_ge hK 204 dX9_measure_162 (by decide) (fun hc => ?_) (fun hc => ?_)
    · replace hf := if_1 hc hf
      refine j_sub [0, 1] rfl ?_
      exact he _ _ hf
    · replace hf := if_2 hc hf
      refine j_iconst hK (0 : Int32) dX9_measure_165 ic_0 ?_
      refine j_istore_n hK (L' := [(3, .int (0 : Int32)), (0, .ref 98), (1, .int x1), (2, .int v)]) dX9_measure_166 rfl (by decide) rfl ?_
      refine j_sub [1, 2, 3, 0] rfl ?_
      refine t_X9_measure_167 hK hA  (fun v10 S11 hf => ?_) _ _ _ hf
      refine j_iinc hK (L' := [(2, .int (v + (1 : Int32))), (0, .ref 98), (1, .int x1)]) dX9_measure_198 2 rfl (congrArg (fun y => v + y) ic_1) (by decide) rfl ?_
      refine j_goto hK 159 dX9_measure_201 (by decide) ?_
      refine j_sub [1, 2, 0] rfl ?_
      exact hk _ _ hf)
def f_X9_measure_151b (e : Int32 → St → Option (Unit × St)) (k : Int32 → St → Option (Unit × St)) (v : Int32) (S : St) : Option (Unit × St) := (if (8 : Int32) ≤ v then e v S else lp (f_X9_measure_159b v (fun v12 S13 => k (v + (1 : Int32)) S13)) FU (0 : Int32) S)
theorem t_X9_measure_151 {K : CT} (hK : KO K cX9_measure RX9 4 2 none) {r : Unit} {S' : St} (hA : zans K (none, S')) {e : Int32 → St → Option (Unit × St)} (he : ∀ (v : Int32) (S : St), e v S = some (r, S') → J K 210 [] [] S) : ∀ (n : Nat) (v : Int32) (S : St), lp (f_X9_measure_151b  e) n v S = some (r, S') → J K 151 [(0, .ref 98), (1, .int v)] [] S :=
  lp_J (P := fun (v : Int32) (S : St) => J K 151 [(0, .ref 98), (1, .int v)] [] S) (fun k hk v S hf => by
    unfold f_X9_measure_151b at hf
    refine j_iload_n hK dX9_measure_151 1 rfl rfl ?_
    refine j_bipush hK (8 : Int32) dX9_measure_152 bi_8 ?_
    refine j_icmp_ge hK 210 dX9_measure_154 (by decide) (fun hc => ?_) (fun hc => ?_)
    · replace hf := if_1 hc hf
      refine j_sub [] rfl ?_
      exact he _ _ hf
    · replace hf := if_2 hc hf
      refine j_iconst hK (0 : Int32) dX9_measure_157 ic_0 ?_
      refine j_istore_n hK (L' := [(2, .int (0 : Int32)), (0, .ref 98), (1, .int v)]) dX9_measure_158 rfl (by decide) rfl ?_
      refine j_sub [1, 2, 0] rfl ?_
      refine t_X9_measure_159 hK hA  (fun v12 S13 hf => ?_) _ _ _ hf
      refine j_iinc hK (L' := [(1, .int (v + (1 : Int32))), (0, .ref 98)]) dX9_measure_204 1 rfl (congrArg (fun y => v + y) ic_1) (by decide) rfl ?_
      refine j_goto hK 151 dX9_measure_207 (by decide) ?_
      refine j_sub [1, 0] rfl ?_
      exact hk _ _ hf)
def f_X9_measure_143 (x1 : Int32) (k e : Int32 → St → Option (Unit × St)) (S : St) : Option (Unit × St) := k (x1 + (1 : Int32)) S
theorem t_X9_measure_143 {K : CT} (hK : KO K cX9_measure RX9 4 2 none) {r : Unit} {S' : St} (hA : zans K (none, S')) {x1 : Int32} {k e : Int32 → St → Option (Unit × St)} (hk : ∀ (v : Int32) (S : St), k v S = some (r, S') → J K 53 [(0, .ref 98), (1, .int v)] [] S) (he : ∀ (v : Int32) (S : St), e v S = some (r, S') → J K 149 [(0, .ref 98)] [] S) {S : St} (hf : f_X9_measure_143 x1 k e S = some (r, S')) : J K 143 [(0, .ref 98), (1, .int x1)] [] S := by
  unfold f_X9_measure_143 at hf
  refine j_iinc hK (L' := [(1, .int (x1 + (1 : Int32))), (0, .ref 98)]) dX9_measure_143 1 rfl (congrArg (fun y => x1 + y) ic_1) (by decide) rfl ?_
  refine j_goto hK 53 dX9_measure_146 (by decide) ?_
  refine j_sub [1, 0] rfl ?_
  exact hk _ _ hf
def f_X9_measure_53b (e : Int32 → St → Option (Unit × St)) (k : Int32 → St → Option (Unit × St)) (v : Int32) (S : St) : Option (Unit × St) := (if (gI S 3 2) ≤ v then e v S else bd (f_X0_isOpen v S) (fun r14 S15 => (if r14 = 0 then f_X9_measure_143 v k e S15 else if inb v 12 then if inb v 12 then if inb v 12 then bd (f_X9_shorten (gI S15 4 v.toNatClampNeg) (gI S15 5 v.toNatClampNeg) (gI S15 7 v.toNatClampNeg) S15) (fun r20 S21 => if inb v 12 then if inb v 12 then if inb v 12 then bd (f_X9_shorten (gI S21 5 v.toNatClampNeg) (gI S21 4 v.toNatClampNeg) (gI S21 7 v.toNatClampNeg) S21) (fun r26 S27 => f_X9_measure_143 v k e S27) else none else none else none) else none else none else none)))
theorem t_X9_measure_53 {K : CT} (hK : KO K cX9_measure RX9 4 2 none) {r : Unit} {S' : St} (hA : zans K (none, S')) {e : Int32 → St → Option (Unit × St)} (he : ∀ (v : Int32) (S : St), e v S = some (r, S') → J K 149 [(0, .ref 98)] [] S) : ∀ (n : Nat) (v : Int32) (S : St), lp (f_X9_measure_53b  e) n v S = some (r, S') → J K 53 [(0, .ref 98), (1, .int v)] [] S :=
  lp_J (P := fun (v : Int32) (S : St) => J K 53 [(0, .ref 98), (1, .int v)] [] S) (fun k hk v S hf => by
    unfold f_X9_measure_53b at hf
    refine j_iload_n hK dX9_measure_53 1 rfl rfl ?_
    refine j_aload_n hK dX9_measure_54 0 rfl rfl ?_
    refine j_getR hK fl_X9_9 dX9_measure_55 zo_98 zf_9_0 zr_98_0 ?_
    refine j_getI hK fl_X9_22 dX9_measure_58 zo_3 zf_0_2 ?_
    refine j_icmp_ge hK 149 dX9_measure_61 (by decide) (fun hc => ?_) (fun hc => ?_)
    · replace hf := if_1 hc hf
      refine j_sub [0] rfl ?_
      exact he _ _ hf
    · replace hf := if_2 hc hf
      refine j_aload_n hK dX9_measure_64 0 rfl rfl ?_
      refine j_getR hK fl_X9_9 dX9_measure_65 zo_98 zf_9_0 zr_98_0 ?_
      refine j_iload_n hK dX9_measure_68 1 rfl rfl ?_
      obtain ⟨r14, S15, h16, hf⟩ := bd_J hf
      refine k_callVi hK (c_X0_isOpen h16) dX9_measure_69 zclX0 zo_3 ml_X9_28 mi_X0_isOpen mx_X0_isOpen in_X0 mc_X0_isOpen hy_X0_isOpen ⟨by decide, by decide⟩ rfl (Nat.le_of_ble_eq_true rfl) ?_
      refine j_if_eq hK 143 dX9_measure_72 (by decide) (fun hc => ?_) (fun hc => ?_)
      · replace hf := if_1 hc hf
        exact t_X9_measure_143 hK hA hk he hf
      · replace hf := if_2 hc hf
        refine j_aload_n hK dX9_measure_75 0 rfl rfl ?_
        refine j_aload_n hK dX9_measure_76 0 rfl rfl ?_
        refine j_getR hK fl_X9_9 dX9_measure_77 zo_98 zf_9_0 zr_98_0 ?_
        refine j_getR hK fl_X9_32 dX9_measure_80 zo_3 zf_0_0 zr_3_0 ?_
        refine j_iload_n hK dX9_measure_83 1 rfl rfl ?_
        obtain ⟨hi17, hf⟩ := gd hf
        refine k_iald hK dX9_measure_84 zb_4 hi17 rfl ?_
        refine j_aload_n hK dX9_measure_85 0 rfl rfl ?_
        refine j_pc (pc' := 86) rfl ?_
        refine j_getR hK fl_X9_9 dX9_measure_86 zo_98 zf_9_0 zr_98_0 ?_
        refine j_getR hK fl_X9_35 dX9_measure_89 zo_3 zf_0_1 zr_3_1 ?_
        refine j_iload_n hK dX9_measure_92 1 rfl rfl ?_
        obtain ⟨hi18, hf⟩ := gd hf
        refine k_iald hK dX9_measure_93 zb_5 hi18 rfl ?_
        refine j_aload_n hK dX9_measure_94 0 rfl rfl ?_
        refine j_getR hK fl_X9_9 dX9_measure_95 zo_98 zf_9_0 zr_98_0 ?_
        refine j_getR hK fl_X9_38 dX9_measure_98 zo_3 zf_0_3 zr_3_3 ?_
        refine j_getR hK fl_X9_42 dX9_measure_101 zo_6 zf_7_0 zr_6_0 ?_
        refine j_pc (pc' := 104) rfl ?_
        refine j_iload_n hK dX9_measure_104 1 rfl rfl ?_
        obtain ⟨hi19, hf⟩ := gd hf
        refine k_iald hK dX9_measure_105 zb_7 hi19 rfl ?_
        obtain ⟨r20, S21, h22, hf⟩ := bd_J hf
        refine k_callVv hK (c_X9_shorten h22) dX9_measure_106 zclX9 zo_98 ml_X9_47 mi_X9_shorten mx_X9_shorten in_X9 mc_X9_shorten hy_X9_shorten ⟨by decide, by decide⟩ rfl (Nat.le_of_ble_eq_true rfl) ?_
        refine j_aload_n hK dX9_measure_109 0 rfl rfl ?_
        refine j_aload_n hK dX9_measure_110 0 rfl rfl ?_
        refine j_getR hK fl_X9_9 dX9_measure_111 zo_98 zf_9_0 zr_98_0 ?_
        refine j_getR hK fl_X9_35 dX9_measure_114 zo_3 zf_0_1 zr_3_1 ?_
        refine j_iload_n hK dX9_measure_117 1 rfl rfl ?_
        refine j_pc (pc' := 118) rfl ?_
        obtain ⟨hi23, hf⟩ := gd hf
        refine k_iald hK dX9_measure_118 zb_5 hi23 rfl ?_
        refine j_aload_n hK dX9_measure_119 0 rfl rfl ?_
        refine j_getR hK fl_X9_9 dX9_measure_120 zo_98 zf_9_0 zr_98_0 ?_
        refine j_getR hK fl_X9_32 dX9_measure_123 zo_3 zf_0_0 zr_3_0 ?_
        refine j_iload_n hK dX9_measure_126 1 rfl rfl ?_
        obtain ⟨hi24, hf⟩ := gd hf
        refine k_iald hK dX9_measure_127 zb_4 hi24 rfl ?_
        refine j_aload_n hK dX9_measure_128 0 rfl rfl ?_
        refine j_getR hK fl_X9_9 dX9_measure_129 zo_98 zf_9_0 zr_98_0 ?_
        refine j_pc (pc' := 132) rfl ?_
        refine j_getR hK fl_X9_38 dX9_measure_132 zo_3 zf_0_3 zr_3_3 ?_
        refine j_getR hK fl_X9_42 dX9_measure_135 zo_6 zf_7_0 zr_6_0 ?_
        refine j_iload_n hK dX9_measure_138 1 rfl rfl ?_
        obtain ⟨hi25, hf⟩ := gd hf
        refine k_iald hK dX9_measure_139 zb_7 hi25 rfl ?_
        obtain ⟨r26, S27, h28, hf⟩ := bd_J hf
        refine k_callVv hK (c_X9_shorten h28) dX9_measure_140 zclX9 zo_98 ml_X9_47 mi_X9_shorten mx_X9_shorten in_X9 mc_X9_shorten hy_X9_shorten ⟨by decide, by decide⟩ rfl (Nat.le_of_ble_eq_true rfl) ?_
        exact t_X9_measure_143 hK hA hk he hf)
def f_X9_measure_38 (x1 : Int32) (x2 : Int32) (s1 : Int32) (s2 : Int32) (k e : Int32 → St → Option (Unit × St)) (S : St) : Option (Unit × St) := if inb s1 64 then lt (sI S 99 s1.toNatClampNeg s2) (fun S30 => k (x2 + (1 : Int32)) S30) else none
theorem t_X9_measure_38 {K : CT} (hK : KO K cX9_measure RX9 4 2 none) {r : Unit} {S' : St} (hA : zans K (none, S')) {x1 : Int32} {x2 : Int32} {s1 : Int32} {s2 : Int32} {k e : Int32 → St → Option (Unit × St)} (hk : ∀ (v : Int32) (S : St), k v S = some (r, S') → J K 10 [(0, .ref 98), (1, .int x1), (2, .int v)] [] S) (he : ∀ (v : Int32) (S : St), e v S = some (r, S') → J K 45 [(0, .ref 98), (1, .int x1)] [] S) {S : St} (hf : f_X9_measure_38 x1 x2 s1 s2 k e S = some (r, S')) : J K 38 [(0, .ref 98), (1, .int x1), (2, .int x2)] [.int s2, .int s1, .ref 99] S := by
  unfold f_X9_measure_38 at hf
  obtain ⟨hi29, hf⟩ := gd hf
  refine k_iast hK dX9_measure_38 zb_99 hi29 rfl ?_
  refine lt_S hf (fun S30 hf => ?_)
  refine j_iinc hK (L' := [(2, .int (x2 + (1 : Int32))), (0, .ref 98), (1, .int x1)]) dX9_measure_39 2 rfl (congrArg (fun y => x2 + y) ic_1) (by decide) rfl ?_
  refine j_goto hK 10 dX9_measure_42 (by decide) ?_
  refine j_sub [1, 2, 0] rfl ?_
  exact hk _ _ hf
def f_X9_measure_10b (x1 : Int32) (e : Int32 → St → Option (Unit × St)) (k : Int32 → St → Option (Unit × St)) (v : Int32) (S : St) : Option (Unit × St) := (if (8 : Int32) ≤ v then e v S else (if x1 = v then f_X9_measure_38 x1 v ((x1 * (8 : Int32)) + v) (0 : Int32) k e S else f_X9_measure_38 x1 v ((x1 * (8 : Int32)) + v) (1000 : Int32) k e S))
theorem t_X9_measure_10 {K : CT} (hK : KO K cX9_measure RX9 4 2 none) {r : Unit} {S' : St} (hA : zans K (none, S')) {x1 : Int32} {e : Int32 → St → Option (Unit × St)} (he : ∀ (v : Int32) (S : St), e v S = some (r, S') → J K 45 [(0, .ref 98), (1, .int x1)] [] S) : ∀ (n : Nat) (v : Int32) (S : St), lp (f_X9_measure_10b x1 e) n v S = some (r, S') → J K 10 [(0, .ref 98), (1, .int x1), (2, .int v)] [] S :=
  lp_J (P := fun (v : Int32) (S : St) => J K 10 [(0, .ref 98), (1, .int x1), (2, .int v)] [] S) (fun k hk v S hf => by
    unfold f_X9_measure_10b at hf
    refine j_iload_n hK dX9_measure_10 2 rfl rfl ?_
    refine j_bipush hK (8 : Int32) dX9_measure_11 bi_8 ?_
    refine j_icmp_ge hK 45 dX9_measure_13 (by decide) (fun hc => ?_) (fun hc => ?_)
    · replace hf := if_1 hc hf
      refine j_sub [0, 1] rfl ?_
      exact he _ _ hf
    · replace hf := if_2 hc hf
      refine j_aload_n hK dX9_measure_16 0 rfl rfl ?_
      refine j_getR hK fl_X9_15 dX9_measure_17 zo_98 zf_9_1 zr_98_1 ?_
      refine j_iload_n hK dX9_measure_20 1 rfl rfl ?_
      refine j_bipush hK (8 : Int32) dX9_measure_21 bi_8 ?_
      refine j_imul hK dX9_measure_23 ?_
      refine j_iload_n hK dX9_measure_24 2 rfl rfl ?_
      refine j_iadd hK dX9_measure_25 ?_
      refine j_pc (pc' := 26) rfl ?_
      refine j_iload_n hK dX9_measure_26 1 rfl rfl ?_
      refine j_iload_n hK dX9_measure_27 2 rfl rfl ?_
      refine j_icmp_ne hK 35 dX9_measure_28 (by decide) (fun hc => ?_) (fun hc => ?_)
      · replace hf := if_2 hc hf
        refine j_sipush hK (1000 : Int32) dX9_measure_35 si_1000 ?_
        exact t_X9_measure_38 hK hA hk he hf
      · replace hf := if_1 hc hf
        refine j_iconst hK (0 : Int32) dX9_measure_31 ic_0 ?_
        refine j_goto hK 38 dX9_measure_32 (by decide) ?_
        exact t_X9_measure_38 hK hA hk he hf)
def f_X9_measure_2b (e : Int32 → St → Option (Unit × St)) (k : Int32 → St → Option (Unit × St)) (v : Int32) (S : St) : Option (Unit × St) := (if (8 : Int32) ≤ v then e v S else lp (f_X9_measure_10b v (fun v31 S32 => k (v + (1 : Int32)) S32)) FU (0 : Int32) S)
theorem t_X9_measure_2 {K : CT} (hK : KO K cX9_measure RX9 4 2 none) {r : Unit} {S' : St} (hA : zans K (none, S')) {e : Int32 → St → Option (Unit × St)} (he : ∀ (v : Int32) (S : St), e v S = some (r, S') → J K 51 [(0, .ref 98)] [] S) : ∀ (n : Nat) (v : Int32) (S : St), lp (f_X9_measure_2b  e) n v S = some (r, S') → J K 2 [(0, .ref 98), (1, .int v)] [] S :=
  lp_J (P := fun (v : Int32) (S : St) => J K 2 [(0, .ref 98), (1, .int v)] [] S) (fun k hk v S hf => by
    unfold f_X9_measure_2b at hf
    refine j_iload_n hK dX9_measure_2 1 rfl rfl ?_
    refine j_bipush hK (8 : Int32) dX9_measure_3 bi_8 ?_
    refine j_icmp_ge hK 51 dX9_measure_5 (by decide) (fun hc => ?_) (fun hc => ?_)
    · replace hf := if_1 hc hf
      refine j_sub [0] rfl ?_
      exact he _ _ hf
    · replace hf := if_2 hc hf
      refine j_iconst hK (0 : Int32) dX9_measure_8 ic_0 ?_
      refine j_istore_n hK (L' := [(2, .int (0 : Int32)), (0, .ref 98), (1, .int v)]) dX9_measure_9 rfl (by decide) rfl ?_
      refine j_sub [1, 2, 0] rfl ?_
      refine t_X9_measure_10 hK hA  (fun v31 S32 hf => ?_) _ _ _ hf
      refine j_iinc hK (L' := [(1, .int (v + (1 : Int32))), (0, .ref 98)]) dX9_measure_45 1 rfl (congrArg (fun y => v + y) ic_1) (by decide) rfl ?_
      refine j_goto hK 2 dX9_measure_48 (by decide) ?_
      refine j_sub [1, 0] rfl ?_
      exact hk _ _ hf)
def f_X9_measure (S : St) : Option (Unit × St) := lp (f_X9_measure_2b  (fun v33 S34 => lp (f_X9_measure_53b  (fun v35 S36 => lp (f_X9_measure_151b  (fun v37 S38 => some ((), S38))) FU (0 : Int32) S36)) FU (0 : Int32) S34)) FU (0 : Int32) S
theorem c_X9_measure {S : St} {r : Unit} {S' : St} (hf : f_X9_measure S = some (r, S')) : zM yX9_measure cX9_measure 4 2 none [.ref 98] S (none) S' := by
  refine zM_of (zpl (by decide)) (Nat.le_of_ble_eq_true rfl) rfl (fun K hK hA => ?_)
  unfold f_X9_measure at hf
  refine j_iconst hK (0 : Int32) dX9_measure_0 ic_0 ?_
  refine j_istore_n hK (L' := [(1, .int (0 : Int32)), (0, .ref 98)]) dX9_measure_1 rfl (by decide) rfl ?_
  refine j_sub [1, 0] rfl ?_
  refine t_X9_measure_2 hK hA  (fun v33 S34 hf => ?_) _ _ _ hf
  refine j_iconst hK (0 : Int32) dX9_measure_51 ic_0 ?_
  refine j_istore_n hK (L' := [(1, .int (0 : Int32)), (0, .ref 98)]) dX9_measure_52 rfl (by decide) rfl ?_
  refine j_sub [1, 0] rfl ?_
  refine t_X9_measure_53 hK hA  (fun v35 S36 hf => ?_) _ _ _ hf
  refine j_iconst hK (0 : Int32) dX9_measure_149 ic_0 ?_
  refine j_istore_n hK (L' := [(1, .int (0 : Int32)), (0, .ref 98)]) dX9_measure_150 rfl (by decide) rfl ?_
  refine j_sub [1, 0] rfl ?_
  refine t_X9_measure_151 hK hA  (fun v37 S38 hf => ?_) _ _ _ hf
  exact j_vret hK dX9_measure_210 rfl (rt_V hA hf)
def f_X9_joinedTo_28 (x1 : Int32) (x2 : Int32) (x3 : Int32) (k e : Int32 × Int32 → St → Option (Int32 × St)) (S : St) : Option (Int32 × St) := k (x2, (x3 + (1 : Int32))) S
theorem t_X9_joinedTo_28 {K : CT} (hK : KO K cX9_joinedTo RX9 4 2 (some .int)) {r : Int32} {S' : St} (hA : zans K (some (.int r), S')) {x1 : Int32} {x2 : Int32} {x3 : Int32} {k e : Int32 × Int32 → St → Option (Int32 × St)} (hk : ∀ (v : Int32 × Int32) (S : St), k v S = some (r, S') → J K 4 [(0, .ref 98), (1, .int x1), (2, .int v.1), (3, .int v.2)] [] S) (he : ∀ (v : Int32 × Int32) (S : St), e v S = some (r, S') → J K 34 [(2, .int v.1)] [] S) {S : St} (hf : f_X9_joinedTo_28 x1 x2 x3 k e S = some (r, S')) : J K 28 [(0, .ref 98), (1, .int x1), (2, .int x2), (3, .int x3)] [] S := by
  unfold f_X9_joinedTo_28 at hf
  refine j_iinc hK (L' := [(3, .int (x3 + (1 : Int32))), (0, .ref 98), (1, .int x1), (2, .int x2)]) dX9_joinedTo_28 3 rfl (congrArg (fun y => x3 + y) ic_1) (by decide) rfl ?_
  refine j_goto hK 4 dX9_joinedTo_31 (by decide) ?_
  refine j_sub [1, 2, 3, 0] rfl ?_
  exact hk _ _ hf
def f_X9_joinedTo_4b (x1 : Int32) (e : Int32 × Int32 → St → Option (Int32 × St)) (k : Int32 × Int32 → St → Option (Int32 × St)) (v : Int32 × Int32) (S : St) : Option (Int32 × St) := (if (8 : Int32) ≤ v.2 then e (v.1, v.2) S else bd (f_X9_farOf x1 v.2 S) (fun r1 S2 => (if (1000 : Int32) ≤ r1 then f_X9_joinedTo_28 x1 v.1 v.2 k e S2 else lt (v.1 ||| ((1 : Int32) <<< (v.2 &&& 31))) (fun y4 => f_X9_joinedTo_28 x1 y4 v.2 k e S2))))
theorem t_X9_joinedTo_4 {K : CT} (hK : KO K cX9_joinedTo RX9 4 2 (some .int)) {r : Int32} {S' : St} (hA : zans K (some (.int r), S')) {x1 : Int32} {e : Int32 × Int32 → St → Option (Int32 × St)} (he : ∀ (v : Int32 × Int32) (S : St), e v S = some (r, S') → J K 34 [(2, .int v.1)] [] S) : ∀ (n : Nat) (v : Int32 × Int32) (S : St), lp (f_X9_joinedTo_4b x1 e) n v S = some (r, S') → J K 4 [(0, .ref 98), (1, .int x1), (2, .int v.1), (3, .int v.2)] [] S :=
  lp_J (P := fun (v : Int32 × Int32) (S : St) => J K 4 [(0, .ref 98), (1, .int x1), (2, .int v.1), (3, .int v.2)] [] S) (fun k hk v S hf => by
    unfold f_X9_joinedTo_4b at hf
    refine j_iload_n hK dX9_joinedTo_4 3 rfl rfl ?_
    refine j_bipush hK (8 : Int32) dX9_joinedTo_5 bi_8 ?_
    refine j_icmp_ge hK 34 dX9_joinedTo_7 (by decide) (fun hc => ?_) (fun hc => ?_)
    · replace hf := if_1 hc hf
      refine j_sub [2] rfl ?_
      exact he _ _ hf
    · replace hf := if_2 hc hf
      refine j_aload_n hK dX9_joinedTo_10 0 rfl rfl ?_
      refine j_iload_n hK dX9_joinedTo_11 1 rfl rfl ?_
      refine j_iload_n hK dX9_joinedTo_12 3 rfl rfl ?_
      obtain ⟨r1, S2, h3, hf⟩ := bd_J hf
      refine k_callVi hK (c_X9_farOf h3) dX9_joinedTo_13 zclX9 zo_98 ml_X9_51 mi_X9_farOf mx_X9_farOf in_X9 mc_X9_farOf hy_X9_farOf ⟨by decide, by decide⟩ rfl (Nat.le_of_ble_eq_true rfl) ?_
      refine j_sipush hK (1000 : Int32) dX9_joinedTo_16 si_1000 ?_
      refine j_icmp_ge hK 28 dX9_joinedTo_19 (by decide) (fun hc => ?_) (fun hc => ?_)
      · replace hf := if_1 hc hf
        exact t_X9_joinedTo_28 hK hA hk he hf
      · replace hf := if_2 hc hf
        refine j_iload_n hK dX9_joinedTo_22 2 rfl rfl ?_
        refine j_iconst hK (1 : Int32) dX9_joinedTo_23 ic_1 ?_
        refine j_iload_n hK dX9_joinedTo_24 3 rfl rfl ?_
        refine j_ishl hK dX9_joinedTo_25 ?_
        refine j_ior hK dX9_joinedTo_26 ?_
        refine lt_I hf (fun y4 hf => ?_)
        refine j_istore_n hK (L' := [(2, .int y4), (0, .ref 98), (1, .int x1), (3, .int v.2)]) dX9_joinedTo_27 rfl (by decide) rfl ?_
        refine j_sub [1, 2, 0, 3] rfl ?_
        exact t_X9_joinedTo_28 hK hA hk he hf)
def f_X9_joinedTo (p1 : Int32) (S : St) : Option (Int32 × St) := lp (f_X9_joinedTo_4b p1 (fun v5 S6 => some (v5.1, S6))) FU ((0 : Int32), (0 : Int32)) S
theorem c_X9_joinedTo {p1 : Int32} {S : St} {r : Int32} {S' : St} (hf : f_X9_joinedTo p1 S = some (r, S')) : zM yX9_joinedTo cX9_joinedTo 4 2 (some .int) [.ref 98, .int p1] S (some (.int r)) S' := by
  refine zM_of (zpl (by decide)) (Nat.le_of_ble_eq_true rfl) rfl (fun K hK hA => ?_)
  unfold f_X9_joinedTo at hf
  refine j_iconst hK (0 : Int32) dX9_joinedTo_0 ic_0 ?_
  refine j_istore_n hK (L' := [(2, .int (0 : Int32)), (0, .ref 98), (1, .int p1)]) dX9_joinedTo_1 rfl (by decide) rfl ?_
  refine j_iconst hK (0 : Int32) dX9_joinedTo_2 ic_0 ?_
  refine j_istore_n hK (L' := [(3, .int (0 : Int32)), (2, .int (0 : Int32)), (0, .ref 98), (1, .int p1)]) dX9_joinedTo_3 rfl (by decide) rfl ?_
  refine j_sub [2, 3, 1, 0] rfl ?_
  refine t_X9_joinedTo_4 hK hA  (fun v5 S6 hf => ?_) _ _ _ hf
  refine j_iload_n hK dX9_joinedTo_34 0 rfl rfl ?_
  exact j_iret hK dX9_joinedTo_35 rfl (rt_I hA hf)
def f_X9_farthestOf_33 (x1 : Int32) (x2 : Int32) (x3 : Int32) (k e : Int32 × Int32 → St → Option (Int32 × St)) (S : St) : Option (Int32 × St) := k (x2, (x3 + (1 : Int32))) S
theorem t_X9_farthestOf_33 {K : CT} (hK : KO K cX9_farthestOf RX9 4 2 (some .int)) {r : Int32} {S' : St} (hA : zans K (some (.int r), S')) {x1 : Int32} {x2 : Int32} {x3 : Int32} {k e : Int32 × Int32 → St → Option (Int32 × St)} (hk : ∀ (v : Int32 × Int32) (S : St), k v S = some (r, S') → J K 4 [(0, .ref 98), (1, .int x1), (2, .int v.1), (3, .int v.2)] [] S) (he : ∀ (v : Int32 × Int32) (S : St), e v S = some (r, S') → J K 39 [(2, .int v.1)] [] S) {S : St} (hf : f_X9_farthestOf_33 x1 x2 x3 k e S = some (r, S')) : J K 33 [(0, .ref 98), (1, .int x1), (2, .int x2), (3, .int x3)] [] S := by
  unfold f_X9_farthestOf_33 at hf
  refine j_iinc hK (L' := [(3, .int (x3 + (1 : Int32))), (0, .ref 98), (1, .int x1), (2, .int x2)]) dX9_farthestOf_33 3 rfl (congrArg (fun y => x3 + y) ic_1) (by decide) rfl ?_
  refine j_goto hK 4 dX9_farthestOf_36 (by decide) ?_
  refine j_sub [1, 2, 3, 0] rfl ?_
  exact hk _ _ hf
def f_X9_farthestOf_4b (x1 : Int32) (e : Int32 × Int32 → St → Option (Int32 × St)) (k : Int32 × Int32 → St → Option (Int32 × St)) (v : Int32 × Int32) (S : St) : Option (Int32 × St) := (if (8 : Int32) ≤ v.2 then e (v.1, v.2) S else bd (f_X9_farOf x1 v.2 S) (fun r1 S2 => (if (1000 : Int32) ≤ r1 then f_X9_farthestOf_33 x1 v.1 v.2 k e S2 else bd (f_X9_farOf x1 v.2 S2) (fun r4 S5 => lt (mxI v.1 r4) (fun y7 => f_X9_farthestOf_33 x1 y7 v.2 k e S5)))))
theorem t_X9_farthestOf_4 {K : CT} (hK : KO K cX9_farthestOf RX9 4 2 (some .int)) {r : Int32} {S' : St} (hA : zans K (some (.int r), S')) {x1 : Int32} {e : Int32 × Int32 → St → Option (Int32 × St)} (he : ∀ (v : Int32 × Int32) (S : St), e v S = some (r, S') → J K 39 [(2, .int v.1)] [] S) : ∀ (n : Nat) (v : Int32 × Int32) (S : St), lp (f_X9_farthestOf_4b x1 e) n v S = some (r, S') → J K 4 [(0, .ref 98), (1, .int x1), (2, .int v.1), (3, .int v.2)] [] S :=
  lp_J (P := fun (v : Int32 × Int32) (S : St) => J K 4 [(0, .ref 98), (1, .int x1), (2, .int v.1), (3, .int v.2)] [] S) (fun k hk v S hf => by
    unfold f_X9_farthestOf_4b at hf
    refine j_iload_n hK dX9_farthestOf_4 3 rfl rfl ?_
    refine j_bipush hK (8 : Int32) dX9_farthestOf_5 bi_8 ?_
    refine j_icmp_ge hK 39 dX9_farthestOf_7 (by decide) (fun hc => ?_) (fun hc => ?_)
    · replace hf := if_1 hc hf
      refine j_sub [2] rfl ?_
      exact he _ _ hf
    · replace hf := if_2 hc hf
      refine j_aload_n hK dX9_farthestOf_10 0 rfl rfl ?_
      refine j_iload_n hK dX9_farthestOf_11 1 rfl rfl ?_
      refine j_iload_n hK dX9_farthestOf_12 3 rfl rfl ?_
      obtain ⟨r1, S2, h3, hf⟩ := bd_J hf
      refine k_callVi hK (c_X9_farOf h3) dX9_farthestOf_13 zclX9 zo_98 ml_X9_51 mi_X9_farOf mx_X9_farOf in_X9 mc_X9_farOf hy_X9_farOf ⟨by decide, by decide⟩ rfl (Nat.le_of_ble_eq_true rfl) ?_
      refine j_sipush hK (1000 : Int32) dX9_farthestOf_16 si_1000 ?_
      refine j_icmp_ge hK 33 dX9_farthestOf_19 (by decide) (fun hc => ?_) (fun hc => ?_)
      · replace hf := if_1 hc hf
        exact t_X9_farthestOf_33 hK hA hk he hf
      · replace hf := if_2 hc hf
        refine j_iload_n hK dX9_farthestOf_22 2 rfl rfl ?_
        refine j_aload_n hK dX9_farthestOf_23 0 rfl rfl ?_
        refine j_iload_n hK dX9_farthestOf_24 1 rfl rfl ?_
        refine j_iload_n hK dX9_farthestOf_25 3 rfl rfl ?_
        obtain ⟨r4, S5, h6, hf⟩ := bd_J hf
        refine k_callVi hK (c_X9_farOf h6) dX9_farthestOf_26 zclX9 zo_98 ml_X9_51 mi_X9_farOf mx_X9_farOf in_X9 mc_X9_farOf hy_X9_farOf ⟨by decide, by decide⟩ rfl (Nat.le_of_ble_eq_true rfl) ?_
        refine j_max hK ml_X9_60 dX9_farthestOf_29 (by decide) (Nat.le_of_ble_eq_true rfl) ?_
        refine lt_I hf (fun y7 hf => ?_)
        refine j_istore_n hK (L' := [(2, .int y7), (0, .ref 98), (1, .int x1), (3, .int v.2)]) dX9_farthestOf_32 rfl (by decide) rfl ?_
        refine j_sub [1, 2, 0, 3] rfl ?_
        exact t_X9_farthestOf_33 hK hA hk he hf)
def f_X9_farthestOf (p1 : Int32) (S : St) : Option (Int32 × St) := lp (f_X9_farthestOf_4b p1 (fun v8 S9 => some (v8.1, S9))) FU ((0 : Int32), (0 : Int32)) S
theorem c_X9_farthestOf {p1 : Int32} {S : St} {r : Int32} {S' : St} (hf : f_X9_farthestOf p1 S = some (r, S')) : zM yX9_farthestOf cX9_farthestOf 4 2 (some .int) [.ref 98, .int p1] S (some (.int r)) S' := by
  refine zM_of (zpl (by decide)) (Nat.le_of_ble_eq_true rfl) rfl (fun K hK hA => ?_)
  unfold f_X9_farthestOf at hf
  refine j_iconst hK (0 : Int32) dX9_farthestOf_0 ic_0 ?_
  refine j_istore_n hK (L' := [(2, .int (0 : Int32)), (0, .ref 98), (1, .int p1)]) dX9_farthestOf_1 rfl (by decide) rfl ?_
  refine j_iconst hK (0 : Int32) dX9_farthestOf_2 ic_0 ?_
  refine j_istore_n hK (L' := [(3, .int (0 : Int32)), (2, .int (0 : Int32)), (0, .ref 98), (1, .int p1)]) dX9_farthestOf_3 rfl (by decide) rfl ?_
  refine j_sub [2, 3, 1, 0] rfl ?_
  refine t_X9_farthestOf_4 hK hA  (fun v8 S9 hf => ?_) _ _ _ hf
  refine j_iload_n hK dX9_farthestOf_39 0 rfl rfl ?_
  exact j_iret hK dX9_farthestOf_40 rfl (rt_I hA hf)
def f_X10_cavern_16 (S : St) : Option (Option Int32 × St) := some (none, S)
theorem t_X10_cavern_16 {K : CT} (hK : KO K cX10_cavern RX10 3 6 (some .int)) {r : Option Int32} {S' : St} (hA : zansX K (r.map (fun v => some (.int v)), S')) {S : St} (hf : f_X10_cavern_16  S = some (r, S')) : J K 16 [] [] S := by
  unfold f_X10_cavern_16 at hf
  exact j_throw hK dX10_cavern_16 dX10_cavern_19 dX10_cavern_20 dX10_cavern_23 (by decide) (Nat.le_of_ble_eq_true rfl) (rt_XIt hA hf)
def f_X10_cavern (p1 : Int32) (p2 : Int32) (S : St) : Option (Option Int32 × St) := bd (f_X10_isCavern p1 S) (fun r1 S2 => (if r1 = 0 then f_X10_cavern_16  S2 else (if p2 < 0 then f_X10_cavern_16  S2 else (if p2 ≤ (2 : Int32) then (if p2 = 0 then bd (f_X0_openOf p1 S2) (fun r13 S14 => some (some r13, S14)) else bd (f_X9_measure S2) (fun r4 S5 => (if p2 = (1 : Int32) then bd (f_X9_joinedTo p1 S5) (fun r10 S11 => some (some r10, S11)) else bd (f_X9_farthestOf p1 S5) (fun r7 S8 => some (some r7, S8))))) else f_X10_cavern_16  S2))))
theorem c_X10_cavern {p1 : Int32} {p2 : Int32} {S : St} {r : Option Int32} {S' : St} (hf : f_X10_cavern p1 p2 S = some (r, S')) : zMX yX10_cavern cX10_cavern 3 6 (some .int) [.ref 0, .int p1, .int p2] S (r.map (fun v => some (.int v))) S' := by
  refine zMX_of (by decide) (Nat.le_of_ble_eq_true rfl) rfl (fun K hK hA => ?_)
  unfold f_X10_cavern at hf
  refine j_iload_n hK dX10_cavern_0 1 rfl rfl ?_
  obtain ⟨r1, S2, h3, hf⟩ := bd_J hf
  refine k_callSi hK (c_X10_isCavern h3) dX10_cavern_1 ml_X10_147 ms_X10_isCavern in_X10 mc_X10_isCavern hy_X10_isCavern ⟨by decide, by decide⟩ rfl (Nat.le_of_ble_eq_true rfl) ?_
  refine j_if_eq hK 16 dX10_cavern_4 (by decide) (fun hc => ?_) (fun hc => ?_)
  · replace hf := if_1 hc hf
    refine j_sub [] rfl ?_
    exact t_X10_cavern_16 hK hA  hf
  · replace hf := if_2 hc hf
    refine j_iload_n hK dX10_cavern_7 2 rfl rfl ?_
    refine j_if_lt hK 16 dX10_cavern_8 (by decide) (fun hc => ?_) (fun hc => ?_)
    · replace hf := if_1 hc hf
      refine j_sub [] rfl ?_
      exact t_X10_cavern_16 hK hA  hf
    · replace hf := if_2 hc hf
      refine j_iload_n hK dX10_cavern_11 2 rfl rfl ?_
      refine j_iconst hK (2 : Int32) dX10_cavern_12 ic_2 ?_
      refine j_icmp_le hK 24 dX10_cavern_13 (by decide) (fun hc => ?_) (fun hc => ?_)
      · replace hf := if_1 hc hf
        refine j_iload_n hK dX10_cavern_24 2 rfl rfl ?_
        refine j_if_ne hK 37 dX10_cavern_25 (by decide) (fun hc => ?_) (fun hc => ?_)
        · replace hf := if_2 hc hf
          refine j_aload_n hK dX10_cavern_37 0 rfl rfl ?_
          refine j_getR hK fl_X10_49 dX10_cavern_38 zo_0 zf_10_5 zr_0_5 ?_
          obtain ⟨r4, S5, h6, hf⟩ := bd_J hf
          refine k_callVv hK (c_X9_measure h6) dX10_cavern_41 zclX9 zo_98 ml_X10_153 mi_X9_measure mx_X9_measure in_X9 mc_X9_measure hy_X9_measure ⟨by decide, by decide⟩ rfl (Nat.le_of_ble_eq_true rfl) ?_
          refine j_iload_n hK dX10_cavern_44 2 rfl rfl ?_
          refine j_iconst hK (1 : Int32) dX10_cavern_45 ic_1 ?_
          refine j_icmp_ne hK 60 dX10_cavern_46 (by decide) (fun hc => ?_) (fun hc => ?_)
          · replace hf := if_2 hc hf
            refine j_aload_n hK dX10_cavern_60 0 rfl rfl ?_
            refine j_getR hK fl_X10_49 dX10_cavern_61 zo_0 zf_10_5 zr_0_5 ?_
            refine j_iload_n hK dX10_cavern_64 1 rfl rfl ?_
            obtain ⟨r7, S8, h9, hf⟩ := bd_J hf
            refine k_callVi hK (c_X9_farthestOf h9) dX10_cavern_65 zclX9 zo_98 ml_X10_159 mi_X9_farthestOf mx_X9_farthestOf in_X9 mc_X9_farthestOf hy_X9_farthestOf ⟨by decide, by decide⟩ rfl (Nat.le_of_ble_eq_true rfl) ?_
            exact j_xiret hK dX10_cavern_68 rfl (rt_XI hA hf)
          · replace hf := if_1 hc hf
            refine j_aload_n hK dX10_cavern_49 0 rfl rfl ?_
            refine j_getR hK fl_X10_49 dX10_cavern_50 zo_0 zf_10_5 zr_0_5 ?_
            refine j_iload_n hK dX10_cavern_53 1 rfl rfl ?_
            obtain ⟨r10, S11, h12, hf⟩ := bd_J hf
            refine k_callVi hK (c_X9_joinedTo h12) dX10_cavern_54 zclX9 zo_98 ml_X10_156 mi_X9_joinedTo mx_X9_joinedTo in_X9 mc_X9_joinedTo hy_X9_joinedTo ⟨by decide, by decide⟩ rfl (Nat.le_of_ble_eq_true rfl) ?_
            refine j_goto hK 68 dX10_cavern_57 (by decide) ?_
            exact j_xiret hK dX10_cavern_68 rfl (rt_XI hA hf)
        · replace hf := if_1 hc hf
          refine j_aload_n hK dX10_cavern_28 0 rfl rfl ?_
          refine j_getR hK fl_X10_19 dX10_cavern_29 zo_0 zf_10_1 zr_0_1 ?_
          refine j_iload_n hK dX10_cavern_32 1 rfl rfl ?_
          obtain ⟨r13, S14, h15, hf⟩ := bd_J hf
          refine k_callVi hK (c_X0_openOf h15) dX10_cavern_33 zclX0 zo_3 ml_X10_150 mi_X0_openOf mx_X0_openOf in_X0 mc_X0_openOf hy_X0_openOf ⟨by decide, by decide⟩ rfl (Nat.le_of_ble_eq_true rfl) ?_
          exact j_xiret hK dX10_cavern_36 rfl (rt_XI hA hf)
      · replace hf := if_2 hc hf
        refine j_sub [] rfl ?_
        exact t_X10_cavern_16 hK hA  hf
