def f_X11_game_133 (x1 : Int32) (x2 : Int32) (x3 : Int32) (x4 : Int32) (x6 : Int32) (s0 : Int32) (k e : Int32 × Int32 → St → Option (Int32 × St)) (S : St) : Option (Int32 × St) := k (s0, (x6 + (-1 : Int32))) S
theorem t_X11_game_133 {K : CT} (hK : KO K cX11_game RX11 8 2 (some .int)) {r : Int32} {S' : St} (hA : zans K (some (.int r), S')) {x1 : Int32} {x2 : Int32} {x3 : Int32} {x4 : Int32} {x6 : Int32} {s0 : Int32} {k e : Int32 × Int32 → St → Option (Int32 × St)} (hk : ∀ (v : Int32 × Int32) (S : St), k v S = some (r, S') → J K 61 [(0, .ref 122), (1, .int x1), (2, .int x2), (3, .int x3), (4, .int x4), (5, .int v.1), (6, .int v.2)] [] S) (he : ∀ (v : Int32 × Int32) (S : St), e v S = some (r, S') → J K 141 [(0, .ref 122), (1, .int x1), (2, .int x2), (3, .int x3), (4, .int x4), (5, .int v.1)] [] S) {S : St} (hf : f_X11_game_133 x1 x2 x3 x4 x6 s0 k e S = some (r, S')) : J K 133 [(0, .ref 122), (1, .int x1), (2, .int x2), (3, .int x3), (4, .int x4), (6, .int x6)] [.int s0] S := by
  unfold f_X11_game_133 at hf
  refine j_istore hK (L' := [(5, .int s0), (0, .ref 122), (1, .int x1), (2, .int x2), (3, .int x3), (4, .int x4), (6, .int x6)]) dX11_game_133 (by decide) rfl ?_
  refine j_iinc hK (L' := [(6, .int (x6 + (-1 : Int32))), (5, .int s0), (0, .ref 122), (1, .int x1), (2, .int x2), (3, .int x3), (4, .int x4)]) dX11_game_135 6 rfl (congrArg (fun y => x6 + y) ic_m1) (by decide) rfl ?_
  refine j_goto hK 61 dX11_game_138 (by decide) ?_
  refine j_sub [2, 3, 4, 5, 6, 1, 0] rfl ?_
  exact hk _ _ hf
def f_X11_game_96 (x1 : Int32) (x2 : Int32) (x3 : Int32) (x4 : Int32) (x5 : Int32) (x6 : Int32) (s0 : Int32) (k e : Int32 × Int32 → St → Option (Int32 × St)) (S : St) : Option (Int32 × St) := (if x6 = x4 then f_X11_game_133 x1 x2 x3 x4 x6 x5 k e S else (if s0 = 0 then (if x5 = (100 : Int32) then f_X11_game_133 x1 x2 x3 x4 x6 (0 : Int32) k e S else f_X11_game_133 x1 x2 x3 x4 x6 x5 k e S) else f_X11_game_133 x1 x2 x3 x4 x6 x6 k e S))
theorem t_X11_game_96 {K : CT} (hK : KO K cX11_game RX11 8 2 (some .int)) {r : Int32} {S' : St} (hA : zans K (some (.int r), S')) {x1 : Int32} {x2 : Int32} {x3 : Int32} {x4 : Int32} {x5 : Int32} {x6 : Int32} {s0 : Int32} {k e : Int32 × Int32 → St → Option (Int32 × St)} (hk : ∀ (v : Int32 × Int32) (S : St), k v S = some (r, S') → J K 61 [(0, .ref 122), (1, .int x1), (2, .int x2), (3, .int x3), (4, .int x4), (5, .int v.1), (6, .int v.2)] [] S) (he : ∀ (v : Int32 × Int32) (S : St), e v S = some (r, S') → J K 141 [(0, .ref 122), (1, .int x1), (2, .int x2), (3, .int x3), (4, .int x4), (5, .int v.1)] [] S) {S : St} (hf : f_X11_game_96 x1 x2 x3 x4 x5 x6 s0 k e S = some (r, S')) : J K 96 [(0, .ref 122), (1, .int x1), (2, .int x2), (3, .int x3), (4, .int x4), (5, .int x5), (6, .int x6)] [.int s0] S := by
  unfold f_X11_game_96 at hf
  refine j_istore hK (L' := [(7, .int s0), (0, .ref 122), (1, .int x1), (2, .int x2), (3, .int x3), (4, .int x4), (5, .int x5), (6, .int x6)]) dX11_game_96 (by decide) rfl ?_
  refine j_iload hK dX11_game_98 7 rfl ?_
  refine j_iload hK dX11_game_100 5 rfl ?_
  refine j_icmp_ne hK 110 dX11_game_102 (by decide) (fun hc => ?_) (fun hc => ?_)
  · replace hf := if_2 hc hf
    refine j_iload hK dX11_game_110 0 rfl ?_
    refine j_if_eq hK 120 dX11_game_112 (by decide) (fun hc => ?_) (fun hc => ?_)
    · replace hf := if_1 hc hf
      refine j_iload hK dX11_game_120 6 rfl ?_
      refine j_bipush hK (100 : Int32) dX11_game_122 bi_100 ?_
      refine j_icmp_ne hK 131 dX11_game_124 (by decide) (fun hc => ?_) (fun hc => ?_)
      · replace hf := if_2 hc hf
        refine j_iload hK dX11_game_131 6 rfl ?_
        refine j_sub [1, 2, 3, 4, 5, 7] rfl ?_
        exact t_X11_game_133 hK hA hk he hf
      · replace hf := if_1 hc hf
        refine j_iconst hK (0 : Int32) dX11_game_127 ic_0 ?_
        refine j_goto hK 133 dX11_game_128 (by decide) ?_
        refine j_sub [1, 2, 3, 4, 5, 7] rfl ?_
        exact t_X11_game_133 hK hA hk he hf
    · replace hf := if_2 hc hf
      refine j_iload hK dX11_game_115 7 rfl ?_
      refine j_goto hK 133 dX11_game_117 (by decide) ?_
      refine j_sub [1, 2, 3, 4, 5, 7] rfl ?_
      exact t_X11_game_133 hK hA hk he hf
  · replace hf := if_1 hc hf
    refine j_iload hK dX11_game_105 6 rfl ?_
    refine j_goto hK 133 dX11_game_107 (by decide) ?_
    refine j_sub [1, 2, 3, 4, 5, 7] rfl ?_
    exact t_X11_game_133 hK hA hk he hf
def f_X11_game_95 (x1 : Int32) (x2 : Int32) (x3 : Int32) (x4 : Int32) (x5 : Int32) (x6 : Int32) (k e : Int32 × Int32 → St → Option (Int32 × St)) (S : St) : Option (Int32 × St) := f_X11_game_96 x1 x2 x3 x4 x5 x6 (0 : Int32) k e S
theorem t_X11_game_95 {K : CT} (hK : KO K cX11_game RX11 8 2 (some .int)) {r : Int32} {S' : St} (hA : zans K (some (.int r), S')) {x1 : Int32} {x2 : Int32} {x3 : Int32} {x4 : Int32} {x5 : Int32} {x6 : Int32} {k e : Int32 × Int32 → St → Option (Int32 × St)} (hk : ∀ (v : Int32 × Int32) (S : St), k v S = some (r, S') → J K 61 [(0, .ref 122), (1, .int x1), (2, .int x2), (3, .int x3), (4, .int x4), (5, .int v.1), (6, .int v.2)] [] S) (he : ∀ (v : Int32 × Int32) (S : St), e v S = some (r, S') → J K 141 [(0, .ref 122), (1, .int x1), (2, .int x2), (3, .int x3), (4, .int x4), (5, .int v.1)] [] S) {S : St} (hf : f_X11_game_95 x1 x2 x3 x4 x5 x6 k e S = some (r, S')) : J K 95 [(0, .ref 122), (1, .int x1), (2, .int x2), (3, .int x3), (4, .int x4), (5, .int x5), (6, .int x6)] [] S := by
  unfold f_X11_game_95 at hf
  refine j_iconst hK (0 : Int32) dX11_game_95 ic_0 ?_
  exact t_X11_game_96 hK hA hk he hf
def f_X11_game_61b (x1 : Int32) (x2 : Int32) (x3 : Int32) (x4 : Int32) (e : Int32 × Int32 → St → Option (Int32 × St)) (k : Int32 × Int32 → St → Option (Int32 × St)) (v : Int32 × Int32) (S : St) : Option (Int32 × St) := (if v.2 ≤ 0 then e (v.1, v.2) S else (if v.2 = x4 then f_X11_game_95 x1 x2 x3 x4 v.1 v.2 k e S else if inb (((10 : Int32) * (x3 - v.2)) + v.2) 610 then (if (gI S 153 (((10 : Int32) * (x3 - v.2)) + v.2).toNatClampNeg) = 0 then f_X11_game_96 x1 x2 x3 x4 v.1 v.2 (1 : Int32) k e S else f_X11_game_95 x1 x2 x3 x4 v.1 v.2 k e S) else none))
theorem t_X11_game_61 {K : CT} (hK : KO K cX11_game RX11 8 2 (some .int)) {r : Int32} {S' : St} (hA : zans K (some (.int r), S')) {x1 : Int32} {x2 : Int32} {x3 : Int32} {x4 : Int32} {e : Int32 × Int32 → St → Option (Int32 × St)} (he : ∀ (v : Int32 × Int32) (S : St), e v S = some (r, S') → J K 141 [(0, .ref 122), (1, .int x1), (2, .int x2), (3, .int x3), (4, .int x4), (5, .int v.1)] [] S) : ∀ (n : Nat) (v : Int32 × Int32) (S : St), lp (f_X11_game_61b x1 x2 x3 x4 e) n v S = some (r, S') → J K 61 [(0, .ref 122), (1, .int x1), (2, .int x2), (3, .int x3), (4, .int x4), (5, .int v.1), (6, .int v.2)] [] S :=
  lp_J (P := fun (v : Int32 × Int32) (S : St) => J K 61 [(0, .ref 122), (1, .int x1), (2, .int x2), (3, .int x3), (4, .int x4), (5, .int v.1), (6, .int v.2)] [] S) (fun k hk v S hf => by
    unfold f_X11_game_61b at hf
    refine j_iload hK dX11_game_61 6 rfl ?_
    refine j_if_le hK 141 dX11_game_63 (by decide) (fun hc => ?_) (fun hc => ?_)
    · replace hf := if_1 hc hf
      refine j_sub [0, 1, 2, 3, 4, 5] rfl ?_
      exact he _ _ hf
    · replace hf := if_2 hc hf
      refine j_iload hK dX11_game_66 6 rfl ?_
      refine j_iload hK dX11_game_68 4 rfl ?_
      refine j_icmp_eq hK 95 dX11_game_70 (by decide) (fun hc => ?_) (fun hc => ?_)
      · replace hf := if_1 hc hf
        exact t_X11_game_95 hK hA hk he hf
      · replace hf := if_2 hc hf
        refine j_aload_n hK dX11_game_73 0 rfl rfl ?_
        refine j_getR hK fl_X11_113 dX11_game_74 zo_122 zf_11_48 zr_122_48 ?_
        refine j_bipush hK (10 : Int32) dX11_game_77 bi_10 ?_
        refine j_iload_n hK dX11_game_79 3 rfl rfl ?_
        refine j_iload hK dX11_game_80 6 rfl ?_
        refine j_isub hK dX11_game_82 ?_
        refine j_imul hK dX11_game_83 ?_
        refine j_pc (pc' := 84) rfl ?_
        refine j_iload hK dX11_game_84 6 rfl ?_
        refine j_iadd hK dX11_game_86 ?_
        obtain ⟨hi1, hf⟩ := gd hf
        refine k_iald hK dX11_game_87 zb_153 hi1 rfl ?_
        refine j_if_ne hK 95 dX11_game_88 (by decide) (fun hc => ?_) (fun hc => ?_)
        · replace hf := if_2 hc hf
          exact t_X11_game_95 hK hA hk he hf
        · replace hf := if_1 hc hf
          refine j_iconst hK (1 : Int32) dX11_game_91 ic_1 ?_
          refine j_goto hK 96 dX11_game_92 (by decide) ?_
          exact t_X11_game_96 hK hA hk he hf)
def f_X11_game_43b (x1 : Int32) (x2 : Int32) (x3 : Int32) (e : Int32 → St → Option (Int32 × St)) (k : Int32 → St → Option (Int32 × St)) (v : Int32) (S : St) : Option (Int32 × St) := (if (10 : Int32) ≤ v then e v S else lt (mnI x2 x3) (fun y2 => lp (f_X11_game_61b x1 x2 x3 v (fun v3 S4 => if inb (((10 : Int32) * x3) + v) 610 then lt (sI S4 153 (((10 : Int32) * x3) + v).toNatClampNeg v3.1) (fun S6 => k (v + (1 : Int32)) S6) else none)) FU ((100 : Int32), y2) S))
theorem t_X11_game_43 {K : CT} (hK : KO K cX11_game RX11 8 2 (some .int)) {r : Int32} {S' : St} (hA : zans K (some (.int r), S')) {x1 : Int32} {x2 : Int32} {x3 : Int32} {e : Int32 → St → Option (Int32 × St)} (he : ∀ (v : Int32) (S : St), e v S = some (r, S') → J K 161 [(0, .ref 122), (1, .int x1), (2, .int x2), (3, .int x3)] [] S) : ∀ (n : Nat) (v : Int32) (S : St), lp (f_X11_game_43b x1 x2 x3 e) n v S = some (r, S') → J K 43 [(0, .ref 122), (1, .int x1), (2, .int x2), (3, .int x3), (4, .int v)] [] S :=
  lp_J (P := fun (v : Int32) (S : St) => J K 43 [(0, .ref 122), (1, .int x1), (2, .int x2), (3, .int x3), (4, .int v)] [] S) (fun k hk v S hf => by
    unfold f_X11_game_43b at hf
    refine j_iload hK dX11_game_43 4 rfl ?_
    refine j_bipush hK (10 : Int32) dX11_game_45 bi_10 ?_
    refine j_icmp_ge hK 161 dX11_game_47 (by decide) (fun hc => ?_) (fun hc => ?_)
    · replace hf := if_1 hc hf
      refine j_sub [0, 1, 2, 3] rfl ?_
      exact he _ _ hf
    · replace hf := if_2 hc hf
      refine j_bipush hK (100 : Int32) dX11_game_50 bi_100 ?_
      refine j_istore hK (L' := [(5, .int (100 : Int32)), (0, .ref 122), (1, .int x1), (2, .int x2), (3, .int x3), (4, .int v)]) dX11_game_52 (by decide) rfl ?_
      refine j_iload_n hK dX11_game_54 3 rfl rfl ?_
      refine j_iload_n hK dX11_game_55 4 rfl rfl ?_
      refine j_min hK ml_X11_146 dX11_game_56 (by decide) (Nat.le_of_ble_eq_true rfl) ?_
      refine lt_I hf (fun y2 hf => ?_)
      refine j_istore hK (L' := [(6, .int y2), (5, .int (100 : Int32)), (0, .ref 122), (1, .int x1), (2, .int x2), (3, .int x3), (4, .int v)]) dX11_game_59 (by decide) rfl ?_
      refine j_sub [2, 3, 4, 5, 6, 1, 0] rfl ?_
      refine t_X11_game_61 hK hA  (fun v3 S4 hf => ?_) _ _ _ hf
      refine j_aload_n hK dX11_game_141 0 rfl rfl ?_
      refine j_getR hK fl_X11_113 dX11_game_142 zo_122 zf_11_48 zr_122_48 ?_
      refine j_bipush hK (10 : Int32) dX11_game_145 bi_10 ?_
      refine j_iload_n hK dX11_game_147 3 rfl rfl ?_
      refine j_imul hK dX11_game_148 ?_
      refine j_iload hK dX11_game_149 4 rfl ?_
      refine j_iadd hK dX11_game_151 ?_
      refine j_pc (pc' := 152) rfl ?_
      refine j_iload hK dX11_game_152 5 rfl ?_
      obtain ⟨hi5, hf⟩ := gd hf
      refine k_iast hK dX11_game_154 zb_153 hi5 rfl ?_
      refine lt_S hf (fun S6 hf => ?_)
      refine j_iinc hK (L' := [(4, .int (v + (1 : Int32))), (0, .ref 122), (1, .int x1), (2, .int x2), (3, .int x3), (5, .int v3.1)]) dX11_game_155 4 rfl (congrArg (fun y => v + y) ic_1) (by decide) rfl ?_
      refine j_goto hK 43 dX11_game_158 (by decide) ?_
      refine j_sub [1, 2, 3, 4, 0] rfl ?_
      exact hk _ _ hf)
def f_X11_game_35b (x1 : Int32) (x2 : Int32) (e : Int32 → St → Option (Int32 × St)) (k : Int32 → St → Option (Int32 × St)) (v : Int32) (S : St) : Option (Int32 × St) := (if x1 < v then e v S else lp (f_X11_game_43b x1 x2 v (fun v7 S8 => k (v + (1 : Int32)) S8)) FU (0 : Int32) S)
theorem t_X11_game_35 {K : CT} (hK : KO K cX11_game RX11 8 2 (some .int)) {r : Int32} {S' : St} (hA : zans K (some (.int r), S')) {x1 : Int32} {x2 : Int32} {e : Int32 → St → Option (Int32 × St)} (he : ∀ (v : Int32) (S : St), e v S = some (r, S') → J K 167 [(0, .ref 122), (1, .int x1)] [] S) : ∀ (n : Nat) (v : Int32) (S : St), lp (f_X11_game_35b x1 x2 e) n v S = some (r, S') → J K 35 [(0, .ref 122), (1, .int x1), (2, .int x2), (3, .int v)] [] S :=
  lp_J (P := fun (v : Int32) (S : St) => J K 35 [(0, .ref 122), (1, .int x1), (2, .int x2), (3, .int v)] [] S) (fun k hk v S hf => by
    unfold f_X11_game_35b at hf
    refine j_iload_n hK dX11_game_35 3 rfl rfl ?_
    refine j_iload_n hK dX11_game_36 1 rfl rfl ?_
    refine j_icmp_gt hK 167 dX11_game_37 (by decide) (fun hc => ?_) (fun hc => ?_)
    · replace hf := if_1 hc hf
      refine j_sub [0, 1] rfl ?_
      exact he _ _ hf
    · replace hf := if_2 hc hf
      refine j_iconst hK (0 : Int32) dX11_game_40 ic_0 ?_
      refine j_istore hK (L' := [(4, .int (0 : Int32)), (0, .ref 122), (1, .int x1), (2, .int x2), (3, .int v)]) dX11_game_41 (by decide) rfl ?_
      refine j_sub [1, 2, 3, 4, 0] rfl ?_
      refine t_X11_game_43 hK hA  (fun v7 S8 hf => ?_) _ _ _ hf
      refine j_iinc hK (L' := [(3, .int (v + (1 : Int32))), (0, .ref 122), (1, .int x1), (2, .int x2)]) dX11_game_161 3 rfl (congrArg (fun y => v + y) ic_1) (by decide) rfl ?_
      refine j_goto hK 35 dX11_game_164 (by decide) ?_
      refine j_sub [1, 2, 3, 0] rfl ?_
      exact hk _ _ hf)
def f_X11_game (p1 : Int32) (p2 : Int32) (S : St) : Option (Int32 × St) := lt (sI S 122 0 (0 : Int32)) (fun S9 => bd (f_X11_in p1.toInt64 (0 : Int64) (60 : Int64) S9) (fun r10 S11 => (if r10 = 0 then some ((-1 : Int32), S11) else bd (f_X11_in p2.toInt64 (2 : Int64) (9 : Int64) S11) (fun r13 S14 => (if r13 = 0 then some ((-1 : Int32), S14) else lp (f_X11_game_35b p1 p2 (fun v16 S17 => (if p1 = 0 then some ((0 : Int32), S17) else if inb ((10 : Int32) * p1) 610 then lt ((gI S17 153 ((10 : Int32) * p1).toNatClampNeg) - (gI S17 153 ((10 : Int32) * p1).toNatClampNeg) / (100 : Int32) * (100 : Int32)) (fun y19 => some (y19, S17)) else none))) FU (0 : Int32) S14)))))
theorem c_X11_game {p1 : Int32} {p2 : Int32} {S : St} {r : Int32} {S' : St} (hf : f_X11_game p1 p2 S = some (r, S')) : zM yX11_game cX11_game 8 2 (some .int) [.ref 122, .int p1, .int p2] S (some (.int r)) S' := by
  refine zM_of (zpl (by decide)) (Nat.le_of_ble_eq_true rfl) rfl (fun K hK hA => ?_)
  unfold f_X11_game at hf
  refine j_aload_n hK dX11_game_0 0 rfl rfl ?_
  refine j_iconst hK (0 : Int32) dX11_game_1 ic_0 ?_
  refine j_putI hK fl_X11_3 dX11_game_2 zo_122 zf_11_0 ?_
  refine lt_S hf (fun S9 hf => ?_)
  refine j_iload_n hK dX11_game_5 1 rfl rfl ?_
  refine j_i2l hK dX11_game_6 ?_
  refine j_lconst hK (0 : Int64) dX11_game_7 lc_0 ?_
  refine j_ldc2 hK (v := (60 : Int64)) cl_X11_362 dX11_game_8 ?_
  obtain ⟨r10, S11, h12, hf⟩ := bd_J hf
  refine k_callSi hK (c_X11_in h12) dX11_game_11 ml_X11_131 ms_X11_in in_X11 mc_X11_in hy_X11_in ⟨by decide, by decide⟩ rfl (Nat.le_of_ble_eq_true rfl) ?_
  refine j_pc (pc' := 14) rfl ?_
  refine j_if_eq hK 31 dX11_game_14 (by decide) (fun hc => ?_) (fun hc => ?_)
  · replace hf := if_1 hc hf
    refine j_iconst hK (-1 : Int32) dX11_game_31 ic_m1 ?_
    exact j_iret hK dX11_game_32 rfl (rt_I hA hf)
  · replace hf := if_2 hc hf
    refine j_iload_n hK dX11_game_17 2 rfl rfl ?_
    refine j_i2l hK dX11_game_18 ?_
    refine j_ldc2 hK (v := (2 : Int64)) cl_X11_300 dX11_game_19 ?_
    refine j_ldc2 hK (v := (9 : Int64)) cl_X11_360 dX11_game_22 ?_
    obtain ⟨r13, S14, h15, hf⟩ := bd_J hf
    refine k_callSi hK (c_X11_in h15) dX11_game_25 ml_X11_131 ms_X11_in in_X11 mc_X11_in hy_X11_in ⟨by decide, by decide⟩ rfl (Nat.le_of_ble_eq_true rfl) ?_
    refine j_if_ne hK 33 dX11_game_28 (by decide) (fun hc => ?_) (fun hc => ?_)
    · replace hf := if_2 hc hf
      refine j_iconst hK (0 : Int32) dX11_game_33 ic_0 ?_
      refine j_istore_n hK (L' := [(3, .int (0 : Int32)), (0, .ref 122), (1, .int p1), (2, .int p2)]) dX11_game_34 rfl (by decide) rfl ?_
      refine j_sub [1, 2, 3, 0] rfl ?_
      refine t_X11_game_35 hK hA  (fun v16 S17 hf => ?_) _ _ _ hf
      refine j_iload_n hK dX11_game_167 1 rfl rfl ?_
      refine j_if_ne hK 175 dX11_game_168 (by decide) (fun hc => ?_) (fun hc => ?_)
      · replace hf := if_2 hc hf
        refine j_aload_n hK dX11_game_175 0 rfl rfl ?_
        refine j_getR hK fl_X11_113 dX11_game_176 zo_122 zf_11_48 zr_122_48 ?_
        refine j_bipush hK (10 : Int32) dX11_game_179 bi_10 ?_
        refine j_iload_n hK dX11_game_181 1 rfl rfl ?_
        refine j_imul hK dX11_game_182 ?_
        obtain ⟨hi18, hf⟩ := gd hf
        refine k_iald hK dX11_game_183 zb_153 hi18 rfl ?_
        refine j_bipush hK (100 : Int32) dX11_game_184 bi_100 ?_
        refine j_pc (pc' := 186) rfl ?_
        refine j_irem hK dX11_game_186 (by decide) ?_
        refine lt_I hf (fun y19 hf => ?_)
        exact j_iret hK dX11_game_187 rfl (rt_I hA hf)
      · replace hf := if_1 hc hf
        refine j_iconst hK (0 : Int32) dX11_game_171 ic_0 ?_
        refine j_goto hK 187 dX11_game_172 (by decide) ?_
        exact j_iret hK dX11_game_187 rfl (rt_I hA hf)
    · replace hf := if_1 hc hf
      refine j_iconst hK (-1 : Int32) dX11_game_31 ic_m1 ?_
      exact j_iret hK dX11_game_32 rfl (rt_I hA hf)
def f_X11_keptByAll_51 (x1 : Int32) (x2 : Int32) (x3 : Int32) (k e : Int32 × Int32 → St → Option (Int32 × St)) (S : St) : Option (Int32 × St) := k (x1, (x3 + (1 : Int32))) S
theorem t_X11_keptByAll_51 {K : CT} (hK : KO K cX11_keptByAll RX11 4 7 (some .int)) {r : Int32} {S' : St} (hA : zans K (some (.int r), S')) {x1 : Int32} {x2 : Int32} {x3 : Int32} {k e : Int32 × Int32 → St → Option (Int32 × St)} (hk : ∀ (v : Int32 × Int32) (S : St), k v S = some (r, S') → J K 12 [(0, .ref 122), (1, .int v.1), (2, .int x2), (3, .int v.2)] [] S) (he : ∀ (v : Int32 × Int32) (S : St), e v S = some (r, S') → J K 57 [(0, .ref 122), (1, .int v.1), (2, .int x2)] [] S) {S : St} (hf : f_X11_keptByAll_51 x1 x2 x3 k e S = some (r, S')) : J K 51 [(0, .ref 122), (1, .int x1), (2, .int x2), (3, .int x3)] [] S := by
  unfold f_X11_keptByAll_51 at hf
  refine j_iinc hK (L' := [(3, .int (x3 + (1 : Int32))), (0, .ref 122), (1, .int x1), (2, .int x2)]) dX11_keptByAll_51 3 rfl (congrArg (fun y => x3 + y) ic_1) (by decide) rfl ?_
  refine j_goto hK 12 dX11_keptByAll_54 (by decide) ?_
  refine j_sub [1, 2, 3, 0] rfl ?_
  exact hk _ _ hf
def f_X11_keptByAll_12b (x2 : Int32) (e : Int32 × Int32 → St → Option (Int32 × St)) (k : Int32 × Int32 → St → Option (Int32 × St)) (v : Int32 × Int32) (S : St) : Option (Int32 × St) := (if (gI S 122 3) ≤ v.2 then e (v.1, v.2) S else bd (f_X11_isEcho 126 x2 v.2 S) (fun r1 S2 => (if r1 = 0 then f_X11_keptByAll_51 v.1 x2 v.2 k e S2 else bd (f_X11_laysEcho 126 x2 v.2 S2) (fun r4 S5 => bd (f_X11_kept (0 : Int32) S5) (fun r7 S8 => lt (v.1 + r7) (fun y10 => f_X11_keptByAll_51 y10 x2 v.2 k e S8))))))
theorem t_X11_keptByAll_12 {K : CT} (hK : KO K cX11_keptByAll RX11 4 7 (some .int)) {r : Int32} {S' : St} (hA : zans K (some (.int r), S')) {x2 : Int32} {e : Int32 × Int32 → St → Option (Int32 × St)} (he : ∀ (v : Int32 × Int32) (S : St), e v S = some (r, S') → J K 57 [(0, .ref 122), (1, .int v.1), (2, .int x2)] [] S) : ∀ (n : Nat) (v : Int32 × Int32) (S : St), lp (f_X11_keptByAll_12b x2 e) n v S = some (r, S') → J K 12 [(0, .ref 122), (1, .int v.1), (2, .int x2), (3, .int v.2)] [] S :=
  lp_J (P := fun (v : Int32 × Int32) (S : St) => J K 12 [(0, .ref 122), (1, .int v.1), (2, .int x2), (3, .int v.2)] [] S) (fun k hk v S hf => by
    unfold f_X11_keptByAll_12b at hf
    refine j_iload_n hK dX11_keptByAll_12 3 rfl rfl ?_
    refine j_aload_n hK dX11_keptByAll_13 0 rfl rfl ?_
    refine j_getI hK fl_X11_128 dX11_keptByAll_14 zo_122 zf_11_3 ?_
    refine j_icmp_ge hK 57 dX11_keptByAll_17 (by decide) (fun hc => ?_) (fun hc => ?_)
    · replace hf := if_1 hc hf
      refine j_sub [0, 1, 2] rfl ?_
      exact he _ _ hf
    · replace hf := if_2 hc hf
      refine j_aload_n hK dX11_keptByAll_20 0 rfl rfl ?_
      refine j_aload_n hK dX11_keptByAll_21 0 rfl rfl ?_
      refine j_getR hK fl_X11_31 dX11_keptByAll_22 zo_122 zf_11_7 zr_122_7 ?_
      refine j_iload_n hK dX11_keptByAll_25 2 rfl rfl ?_
      refine j_iload_n hK dX11_keptByAll_26 3 rfl rfl ?_
      obtain ⟨r1, S2, h3, hf⟩ := bd_J hf
      refine k_callVi hK (c_X11_isEcho zb_126 h3) dX11_keptByAll_27 zclX11 zo_122 ml_X11_326 mi_X11_isEcho mx_X11_isEcho in_X11 mc_X11_isEcho hy_X11_isEcho ⟨by decide, by decide⟩ rfl (Nat.le_of_ble_eq_true rfl) ?_
      refine j_if_eq hK 51 dX11_keptByAll_30 (by decide) (fun hc => ?_) (fun hc => ?_)
      · replace hf := if_1 hc hf
        exact t_X11_keptByAll_51 hK hA hk he hf
      · replace hf := if_2 hc hf
        refine j_aload_n hK dX11_keptByAll_33 0 rfl rfl ?_
        refine j_aload_n hK dX11_keptByAll_34 0 rfl rfl ?_
        refine j_getR hK fl_X11_31 dX11_keptByAll_35 zo_122 zf_11_7 zr_122_7 ?_
        refine j_iload_n hK dX11_keptByAll_38 2 rfl rfl ?_
        refine j_iload_n hK dX11_keptByAll_39 3 rfl rfl ?_
        obtain ⟨r4, S5, h6, hf⟩ := bd_J hf
        refine k_callVv hK (c_X11_laysEcho zb_126 h6) dX11_keptByAll_40 zclX11 zo_122 ml_X11_336 mi_X11_laysEcho mx_X11_laysEcho in_X11 mc_X11_laysEcho hy_X11_laysEcho ⟨by decide, by decide⟩ rfl (Nat.le_of_ble_eq_true rfl) ?_
        refine j_iload_n hK dX11_keptByAll_43 1 rfl rfl ?_
        refine j_pc (pc' := 44) rfl ?_
        refine j_aload_n hK dX11_keptByAll_44 0 rfl rfl ?_
        refine j_iconst hK (0 : Int32) dX11_keptByAll_45 ic_0 ?_
        obtain ⟨r7, S8, h9, hf⟩ := bd_J hf
        refine k_callVi hK (c_X11_kept h9) dX11_keptByAll_46 zclX11 zo_122 ml_X11_387 mi_X11_kept mx_X11_kept in_X11 mc_X11_kept hy_X11_kept ⟨by decide, by decide⟩ rfl (Nat.le_of_ble_eq_true rfl) ?_
        refine j_iadd hK dX11_keptByAll_49 ?_
        refine lt_I hf (fun y10 hf => ?_)
        refine j_istore_n hK (L' := [(1, .int y10), (0, .ref 122), (2, .int x2), (3, .int v.2)]) dX11_keptByAll_50 rfl (by decide) rfl ?_
        refine j_sub [1, 0, 2, 3] rfl ?_
        exact t_X11_keptByAll_51 hK hA hk he hf)
def f_X11_keptByAll_4b (e : Int32 × Int32 → St → Option (Int32 × St)) (k : Int32 × Int32 → St → Option (Int32 × St)) (v : Int32 × Int32) (S : St) : Option (Int32 × St) := (if (8 : Int32) ≤ v.2 then e (v.1, v.2) S else lp (f_X11_keptByAll_12b v.2 (fun v11 S12 => k (v11.1, (v.2 + (1 : Int32))) S12)) FU (v.1, (0 : Int32)) S)
theorem t_X11_keptByAll_4 {K : CT} (hK : KO K cX11_keptByAll RX11 4 7 (some .int)) {r : Int32} {S' : St} (hA : zans K (some (.int r), S')) {e : Int32 × Int32 → St → Option (Int32 × St)} (he : ∀ (v : Int32 × Int32) (S : St), e v S = some (r, S') → J K 63 [(1, .int v.1)] [] S) : ∀ (n : Nat) (v : Int32 × Int32) (S : St), lp (f_X11_keptByAll_4b  e) n v S = some (r, S') → J K 4 [(0, .ref 122), (1, .int v.1), (2, .int v.2)] [] S :=
  lp_J (P := fun (v : Int32 × Int32) (S : St) => J K 4 [(0, .ref 122), (1, .int v.1), (2, .int v.2)] [] S) (fun k hk v S hf => by
    unfold f_X11_keptByAll_4b at hf
    refine j_iload_n hK dX11_keptByAll_4 2 rfl rfl ?_
    refine j_bipush hK (8 : Int32) dX11_keptByAll_5 bi_8 ?_
    refine j_icmp_ge hK 63 dX11_keptByAll_7 (by decide) (fun hc => ?_) (fun hc => ?_)
    · replace hf := if_1 hc hf
      refine j_sub [1] rfl ?_
      exact he _ _ hf
    · replace hf := if_2 hc hf
      refine j_iconst hK (0 : Int32) dX11_keptByAll_10 ic_0 ?_
      refine j_istore_n hK (L' := [(3, .int (0 : Int32)), (0, .ref 122), (1, .int v.1), (2, .int v.2)]) dX11_keptByAll_11 rfl (by decide) rfl ?_
      refine j_sub [1, 2, 3, 0] rfl ?_
      refine t_X11_keptByAll_12 hK hA  (fun v11 S12 hf => ?_) _ _ _ hf
      refine j_iinc hK (L' := [(2, .int (v.2 + (1 : Int32))), (0, .ref 122), (1, .int v11.1)]) dX11_keptByAll_57 2 rfl (congrArg (fun y => v.2 + y) ic_1) (by decide) rfl ?_
      refine j_goto hK 4 dX11_keptByAll_60 (by decide) ?_
      refine j_sub [1, 2, 0] rfl ?_
      exact hk _ _ hf)
def f_X11_keptByAll (S : St) : Option (Int32 × St) := lp (f_X11_keptByAll_4b  (fun v13 S14 => some (v13.1, S14))) FU ((0 : Int32), (0 : Int32)) S
theorem c_X11_keptByAll {S : St} {r : Int32} {S' : St} (hf : f_X11_keptByAll S = some (r, S')) : zM yX11_keptByAll cX11_keptByAll 4 7 (some .int) [.ref 122] S (some (.int r)) S' := by
  refine zM_of (zpl (by decide)) (Nat.le_of_ble_eq_true rfl) rfl (fun K hK hA => ?_)
  unfold f_X11_keptByAll at hf
  refine j_iconst hK (0 : Int32) dX11_keptByAll_0 ic_0 ?_
  refine j_istore_n hK (L' := [(1, .int (0 : Int32)), (0, .ref 122)]) dX11_keptByAll_1 rfl (by decide) rfl ?_
  refine j_iconst hK (0 : Int32) dX11_keptByAll_2 ic_0 ?_
  refine j_istore_n hK (L' := [(2, .int (0 : Int32)), (1, .int (0 : Int32)), (0, .ref 122)]) dX11_keptByAll_3 rfl (by decide) rfl ?_
  refine j_sub [2, 1, 0] rfl ?_
  refine t_X11_keptByAll_4 hK hA  (fun v13 S14 hf => ?_) _ _ _ hf
  refine j_iload_n hK dX11_keptByAll_63 0 rfl rfl ?_
  exact j_iret hK dX11_keptByAll_64 rfl (rt_I hA hf)
def f_X11_law_35b (x2 : Int32) (x3 : Int32) (e : Int32 → St → Option (Int32 × St)) (k : Int32 → St → Option (Int32 × St)) (v : Int32) (S : St) : Option (Int32 × St) := (if (gI S 122 18) ≤ v then e v S else if inb v 80 then if inb v 80 then lt (sI S 154 v.toNatClampNeg (gI S 130 v.toNatClampNeg)) (fun S3 => k (v + (1 : Int32)) S3) else none else none)
theorem t_X11_law_35 {K : CT} (hK : KO K cX11_law RX11 5 142 (some .int)) {r : Int32} {S' : St} (hA : zans K (some (.int r), S')) {x2 : Int32} {x3 : Int32} {e : Int32 → St → Option (Int32 × St)} (he : ∀ (v : Int32) (S : St), e v S = some (r, S') → J K 64 [(0, .ref 122), (2, .int x2), (3, .int x3)] [] S) : ∀ (n : Nat) (v : Int32) (S : St), lp (f_X11_law_35b x2 x3 e) n v S = some (r, S') → J K 35 [(0, .ref 122), (2, .int x2), (3, .int x3), (4, .int v)] [] S :=
  lp_J (P := fun (v : Int32) (S : St) => J K 35 [(0, .ref 122), (2, .int x2), (3, .int x3), (4, .int v)] [] S) (fun k hk v S hf => by
    unfold f_X11_law_35b at hf
    refine j_iload hK dX11_law_35 3 rfl ?_
    refine j_aload_n hK dX11_law_37 0 rfl rfl ?_
    refine j_getI hK fl_X11_237 dX11_law_38 zo_122 zf_11_18 ?_
    refine j_icmp_ge hK 64 dX11_law_41 (by decide) (fun hc => ?_) (fun hc => ?_)
    · replace hf := if_1 hc hf
      refine j_sub [0, 1, 2] rfl ?_
      exact he _ _ hf
    · replace hf := if_2 hc hf
      refine j_aload_n hK dX11_law_44 0 rfl rfl ?_
      refine j_getR hK fl_X11_116 dX11_law_45 zo_122 zf_11_49 zr_122_49 ?_
      refine j_iload hK dX11_law_48 3 rfl ?_
      refine j_aload_n hK dX11_law_50 0 rfl rfl ?_
      refine j_getR hK fl_X11_43 dX11_law_51 zo_122 zf_11_16 zr_122_16 ?_
      refine j_iload hK dX11_law_54 3 rfl ?_
      obtain ⟨hi1, hf⟩ := gd hf
      refine k_iald hK dX11_law_56 zb_130 hi1 rfl ?_
      refine j_pc (pc' := 57) rfl ?_
      obtain ⟨hi2, hf⟩ := gd hf
      refine k_iast hK dX11_law_57 zb_154 hi2 rfl ?_
      refine lt_S hf (fun S3 hf => ?_)
      refine j_iinc hK (L' := [(4, .int (v + (1 : Int32))), (0, .ref 122), (2, .int x2), (3, .int x3)]) dX11_law_58 3 rfl (congrArg (fun y => v + y) ic_1) (by decide) rfl ?_
      refine j_goto hK 35 dX11_law_61 (by decide) ?_
      refine j_sub [1, 2, 3, 0] rfl ?_
      exact hk _ _ hf)
def f_X11_law (S : St) : Option (Int32 × St) := lt (sI S 122 0 (0 : Int32)) (fun S4 => bd (f_X11_readsRule S4) (fun r5 S6 => (if 0 ≤ r5 then bd (f_X11_keptByAll S6) (fun r8 S9 => lt (gI S9 122 18) (fun y11 => lp (f_X11_law_35b r8 y11 (fun v12 S13 => bd (f_X11_laysCode 131 (gI S13 122 19) S13) (fun r14 S15 => bd (f_X11_keptByAll S15) (fun r17 S18 => bd (f_X11_laysCode 154 y11 S18) (fun r20 S21 => lt (sI S21 122 1 (0 : Int32)) (fun S23 => bd (f_X11_enters r17.toInt64 S23) (fun r24 S25 => bd (f_X11_enters r8.toInt64 S25) (fun r27 S28 => some ((r17 - r8), S28))))))))) FU (0 : Int32) S9)) else some (((r5 + (1 : Int32)) - (10000 : Int32)), S6))))
theorem c_X11_law {S : St} {r : Int32} {S' : St} (hf : f_X11_law S = some (r, S')) : zM yX11_law cX11_law 5 142 (some .int) [.ref 122] S (some (.int r)) S' := by
  refine zM_of (zpl (by decide)) (Nat.le_of_ble_eq_true rfl) rfl (fun K hK hA => ?_)
  unfold f_X11_law at hf
  refine j_aload_n hK dX11_law_0 0 rfl rfl ?_
  refine j_iconst hK (0 : Int32) dX11_law_1 ic_0 ?_
  refine j_putI hK fl_X11_3 dX11_law_2 zo_122 zf_11_0 ?_
  refine lt_S hf (fun S4 hf => ?_)
  refine j_aload_n hK dX11_law_5 0 rfl rfl ?_
  obtain ⟨r5, S6, h7, hf⟩ := bd_J hf
  refine k_callVi hK (c_X11_readsRule h7) dX11_law_6 zclX11 zo_122 ml_X11_240 mi_X11_readsRule mx_X11_readsRule in_X11 mc_X11_readsRule hy_X11_readsRule ⟨by decide, by decide⟩ rfl (Nat.le_of_ble_eq_true rfl) ?_
  refine j_istore_n hK (L' := [(1, .int r5), (0, .ref 122)]) dX11_law_9 rfl (by decide) rfl ?_
  refine j_iload_n hK dX11_law_10 0 rfl rfl ?_
  refine j_if_ge hK 22 dX11_law_11 (by decide) (fun hc => ?_) (fun hc => ?_)
  · replace hf := if_1 hc hf
    refine j_aload_n hK dX11_law_22 1 rfl rfl ?_
    obtain ⟨r8, S9, h10, hf⟩ := bd_J hf
    refine k_callVi hK (c_X11_keptByAll h10) dX11_law_23 zclX11 zo_122 ml_X11_429 mi_X11_keptByAll mx_X11_keptByAll in_X11 mc_X11_keptByAll hy_X11_keptByAll ⟨by decide, by decide⟩ rfl (Nat.le_of_ble_eq_true rfl) ?_
    refine j_istore_n hK (L' := [(2, .int r8), (1, .int r5), (0, .ref 122)]) dX11_law_26 rfl (by decide) rfl ?_
    refine j_aload_n hK dX11_law_27 2 rfl rfl ?_
    refine j_getI hK fl_X11_237 dX11_law_28 zo_122 zf_11_18 ?_
    refine lt_I hf (fun y11 hf => ?_)
    refine j_istore_n hK (L' := [(3, .int y11), (2, .int r8), (1, .int r5), (0, .ref 122)]) dX11_law_31 rfl (by decide) rfl ?_
    refine j_iconst hK (0 : Int32) dX11_law_32 ic_0 ?_
    refine j_pc (pc' := 33) rfl ?_
    refine j_istore hK (L' := [(4, .int (0 : Int32)), (3, .int y11), (2, .int r8), (1, .int r5), (0, .ref 122)]) dX11_law_33 (by decide) rfl ?_
    refine j_sub [4, 2, 1, 0] rfl ?_
    refine t_X11_law_35 hK hA  (fun v12 S13 hf => ?_) _ _ _ hf
    refine j_aload_n hK dX11_law_64 0 rfl rfl ?_
    refine j_aload_n hK dX11_law_65 0 rfl rfl ?_
    refine j_getR hK fl_X11_46 dX11_law_66 zo_122 zf_11_17 zr_122_17 ?_
    refine j_aload_n hK dX11_law_69 0 rfl rfl ?_
    refine j_getI hK fl_X11_212 dX11_law_70 zo_122 zf_11_19 ?_
    obtain ⟨r14, S15, h16, hf⟩ := bd_J hf
    refine k_callVv hK (c_X11_laysCode zb_131 h16) dX11_law_73 zclX11 zo_122 ml_X11_243 mi_X11_laysCode mx_X11_laysCode in_X11 mc_X11_laysCode hy_X11_laysCode ⟨by decide, by decide⟩ rfl (Nat.le_of_ble_eq_true rfl) ?_
    refine j_aload_n hK dX11_law_76 0 rfl rfl ?_
    refine j_pc (pc' := 77) rfl ?_
    obtain ⟨r17, S18, h19, hf⟩ := bd_J hf
    refine k_callVi hK (c_X11_keptByAll h19) dX11_law_77 zclX11 zo_122 ml_X11_429 mi_X11_keptByAll mx_X11_keptByAll in_X11 mc_X11_keptByAll hy_X11_keptByAll ⟨by decide, by decide⟩ rfl (Nat.le_of_ble_eq_true rfl) ?_
    refine j_istore hK (L' := [(4, .int r17), (0, .ref 122), (2, .int r8), (3, .int y11)]) dX11_law_80 (by decide) rfl ?_
    refine j_aload_n hK dX11_law_82 1 rfl rfl ?_
    refine j_aload_n hK dX11_law_83 1 rfl rfl ?_
    refine j_getR hK fl_X11_116 dX11_law_84 zo_122 zf_11_49 zr_122_49 ?_
    refine j_iload_n hK dX11_law_87 3 rfl rfl ?_
    obtain ⟨r20, S21, h22, hf⟩ := bd_J hf
    refine k_callVv hK (c_X11_laysCode zb_154 h22) dX11_law_88 zclX11 zo_122 ml_X11_243 mi_X11_laysCode mx_X11_laysCode in_X11 mc_X11_laysCode hy_X11_laysCode ⟨by decide, by decide⟩ rfl (Nat.le_of_ble_eq_true rfl) ?_
    refine j_aload_n hK dX11_law_91 1 rfl rfl ?_
    refine j_pc (pc' := 92) rfl ?_
    refine j_iconst hK (0 : Int32) dX11_law_92 ic_0 ?_
    refine j_putI hK fl_X11_15 dX11_law_93 zo_122 zf_11_1 ?_
    refine lt_S hf (fun S23 hf => ?_)
    refine j_aload_n hK dX11_law_96 1 rfl rfl ?_
    refine j_iload hK dX11_law_97 0 rfl ?_
    refine j_i2l hK dX11_law_99 ?_
    obtain ⟨r24, S25, h26, hf⟩ := bd_J hf
    refine k_callVv hK (c_X11_enters h26) dX11_law_100 zclX11 zo_122 ml_X11_340 mi_X11_enters mx_X11_enters in_X11 mc_X11_enters hy_X11_enters ⟨by decide, by decide⟩ rfl (Nat.le_of_ble_eq_true rfl) ?_
    refine j_aload_n hK dX11_law_103 1 rfl rfl ?_
    refine j_iload_n hK dX11_law_104 2 rfl rfl ?_
    refine j_pc (pc' := 105) rfl ?_
    refine j_i2l hK dX11_law_105 ?_
    obtain ⟨r27, S28, h29, hf⟩ := bd_J hf
    refine k_callVv hK (c_X11_enters h29) dX11_law_106 zclX11 zo_122 ml_X11_340 mi_X11_enters mx_X11_enters in_X11 mc_X11_enters hy_X11_enters ⟨by decide, by decide⟩ rfl (Nat.le_of_ble_eq_true rfl) ?_
    refine j_iload hK dX11_law_109 0 rfl ?_
    refine j_iload_n hK dX11_law_111 2 rfl rfl ?_
    refine j_isub hK dX11_law_112 ?_
    exact j_iret hK dX11_law_113 rfl (rt_I hA hf)
  · replace hf := if_2 hc hf
    refine j_iload_n hK dX11_law_14 0 rfl rfl ?_
    refine j_iconst hK (1 : Int32) dX11_law_15 ic_1 ?_
    refine j_iadd hK dX11_law_16 ?_
    refine j_sipush hK (10000 : Int32) dX11_law_17 si_10000 ?_
    refine j_isub hK dX11_law_20 ?_
    exact j_iret hK dX11_law_21 rfl (rt_I hA hf)
def f_X11_gets (p0 : Int32) (p1 : Int32) (p2 : Int32) (S : St) : Option (Int32 × St) := (if p1 ≤ p0 then (if p0 = p1 then some (((p0 + (p2 / (4 : Int32))) / (2 : Int32)), S) else some ((-1 : Int32), S)) else some ((p0 + (p2 / (4 : Int32))), S))
theorem c_X11_gets {p0 : Int32} {p1 : Int32} {p2 : Int32} {S : St} {r : Int32} {S' : St} (hf : f_X11_gets p0 p1 p2 S = some (r, S')) : zM yX11_gets cX11_gets 3 1 (some .int) [.int p0, .int p1, .int p2] S (some (.int r)) S' := by
  refine zM_of (zpl (by decide)) (Nat.le_of_ble_eq_true rfl) rfl (fun K hK hA => ?_)
  unfold f_X11_gets at hf
  refine j_iload_n hK dX11_gets_0 0 rfl rfl ?_
  refine j_iload_n hK dX11_gets_1 1 rfl rfl ?_
  refine j_icmp_ge hK 13 dX11_gets_2 (by decide) (fun hc => ?_) (fun hc => ?_)
  · replace hf := if_1 hc hf
    refine j_iload_n hK dX11_gets_13 0 rfl rfl ?_
    refine j_iload_n hK dX11_gets_14 1 rfl rfl ?_
    refine j_icmp_ne hK 28 dX11_gets_15 (by decide) (fun hc => ?_) (fun hc => ?_)
    · replace hf := if_2 hc hf
      refine j_iconst hK (-1 : Int32) dX11_gets_28 ic_m1 ?_
      exact j_iret hK dX11_gets_29 rfl (rt_I hA hf)
    · replace hf := if_1 hc hf
      refine j_iload_n hK dX11_gets_18 0 rfl rfl ?_
      refine j_iload_n hK dX11_gets_19 2 rfl rfl ?_
      refine j_iconst hK (4 : Int32) dX11_gets_20 ic_4 ?_
      refine j_idiv hK dX11_gets_21 (by decide) ?_
      refine j_iadd hK dX11_gets_22 ?_
      refine j_iconst hK (2 : Int32) dX11_gets_23 ic_2 ?_
      refine j_idiv hK dX11_gets_24 (by decide) ?_
      refine j_pc (pc' := 25) rfl ?_
      refine j_goto hK 29 dX11_gets_25 (by decide) ?_
      exact j_iret hK dX11_gets_29 rfl (rt_I hA hf)
  · replace hf := if_2 hc hf
    refine j_iload_n hK dX11_gets_5 0 rfl rfl ?_
    refine j_iload_n hK dX11_gets_6 2 rfl rfl ?_
    refine j_iconst hK (4 : Int32) dX11_gets_7 ic_4 ?_
    refine j_idiv hK dX11_gets_8 (by decide) ?_
    refine j_iadd hK dX11_gets_9 ?_
    refine j_goto hK 29 dX11_gets_10 (by decide) ?_
    exact j_iret hK dX11_gets_29 rfl (rt_I hA hf)
def f_X11_isRest_37 (x0 : Int32) (x1 : Int32) (x2 : Int32) (x4 : Int32) (s0 : Int32) (k e : Int32 × Int32 → St → Option (Int32 × St)) (S : St) : Option (Int32 × St) := k (s0, (x4 + (1 : Int32))) S
theorem t_X11_isRest_37 {K : CT} (hK : KO K cX11_isRest RX11 5 2 (some .boolean)) {r : Int32} {S' : St} (hA : zans K (some (.int r), S')) {x0 : Int32} {x1 : Int32} {x2 : Int32} {x4 : Int32} {s0 : Int32} {k e : Int32 × Int32 → St → Option (Int32 × St)} (hk : ∀ (v : Int32 × Int32) (S : St), k v S = some (r, S') → J K 5 [(0, .int x0), (1, .int x1), (2, .int x2), (3, .int v.1), (4, .int v.2)] [] S) (he : ∀ (v : Int32 × Int32) (S : St), e v S = some (r, S') → J K 44 [(3, .int v.1)] [] S) {S : St} (hf : f_X11_isRest_37 x0 x1 x2 x4 s0 k e S = some (r, S')) : J K 37 [(0, .int x0), (1, .int x1), (2, .int x2), (4, .int x4)] [.int s0] S := by
  unfold f_X11_isRest_37 at hf
  refine j_istore_n hK (L' := [(3, .int s0), (0, .int x0), (1, .int x1), (2, .int x2), (4, .int x4)]) dX11_isRest_37 rfl (by decide) rfl ?_
  refine j_iinc hK (L' := [(4, .int (x4 + (1 : Int32))), (3, .int s0), (0, .int x0), (1, .int x1), (2, .int x2)]) dX11_isRest_38 4 rfl (congrArg (fun y => x4 + y) ic_1) (by decide) rfl ?_
  refine j_goto hK 5 dX11_isRest_41 (by decide) ?_
  refine j_sub [2, 3, 4, 1, 0] rfl ?_
  exact hk _ _ hf
def f_X11_isRest_36 (x0 : Int32) (x1 : Int32) (x2 : Int32) (x4 : Int32) (k e : Int32 × Int32 → St → Option (Int32 × St)) (S : St) : Option (Int32 × St) := f_X11_isRest_37 x0 x1 x2 x4 (0 : Int32) k e S
theorem t_X11_isRest_36 {K : CT} (hK : KO K cX11_isRest RX11 5 2 (some .boolean)) {r : Int32} {S' : St} (hA : zans K (some (.int r), S')) {x0 : Int32} {x1 : Int32} {x2 : Int32} {x4 : Int32} {k e : Int32 × Int32 → St → Option (Int32 × St)} (hk : ∀ (v : Int32 × Int32) (S : St), k v S = some (r, S') → J K 5 [(0, .int x0), (1, .int x1), (2, .int x2), (3, .int v.1), (4, .int v.2)] [] S) (he : ∀ (v : Int32 × Int32) (S : St), e v S = some (r, S') → J K 44 [(3, .int v.1)] [] S) {S : St} (hf : f_X11_isRest_36 x0 x1 x2 x4 k e S = some (r, S')) : J K 36 [(0, .int x0), (1, .int x1), (2, .int x2), (4, .int x4)] [] S := by
  unfold f_X11_isRest_36 at hf
  refine j_iconst hK (0 : Int32) dX11_isRest_36 ic_0 ?_
  exact t_X11_isRest_37 hK hA hk he hf
def f_X11_isRest_5b (x0 : Int32) (x1 : Int32) (x2 : Int32) (e : Int32 × Int32 → St → Option (Int32 × St)) (k : Int32 × Int32 → St → Option (Int32 × St)) (v : Int32 × Int32) (S : St) : Option (Int32 × St) := (if (9 : Int32) < v.2 then e (v.1, v.2) S else (if v.1 = 0 then f_X11_isRest_36 x0 x1 x2 v.2 k e S else bd (f_X11_gets v.2 x1 x2 S) (fun r1 S2 => bd (f_X11_gets x0 x1 x2 S2) (fun r4 S5 => (if r4 < r1 then f_X11_isRest_36 x0 x1 x2 v.2 k e S5 else f_X11_isRest_37 x0 x1 x2 v.2 (1 : Int32) k e S5)))))
theorem t_X11_isRest_5 {K : CT} (hK : KO K cX11_isRest RX11 5 2 (some .boolean)) {r : Int32} {S' : St} (hA : zans K (some (.int r), S')) {x0 : Int32} {x1 : Int32} {x2 : Int32} {e : Int32 × Int32 → St → Option (Int32 × St)} (he : ∀ (v : Int32 × Int32) (S : St), e v S = some (r, S') → J K 44 [(3, .int v.1)] [] S) : ∀ (n : Nat) (v : Int32 × Int32) (S : St), lp (f_X11_isRest_5b x0 x1 x2 e) n v S = some (r, S') → J K 5 [(0, .int x0), (1, .int x1), (2, .int x2), (3, .int v.1), (4, .int v.2)] [] S :=
  lp_J (P := fun (v : Int32 × Int32) (S : St) => J K 5 [(0, .int x0), (1, .int x1), (2, .int x2), (3, .int v.1), (4, .int v.2)] [] S) (fun k hk v S hf => by
    unfold f_X11_isRest_5b at hf
    refine j_iload hK dX11_isRest_5 4 rfl ?_
    refine j_bipush hK (9 : Int32) dX11_isRest_7 bi_9 ?_
    refine j_icmp_gt hK 44 dX11_isRest_9 (by decide) (fun hc => ?_) (fun hc => ?_)
    · replace hf := if_1 hc hf
      refine j_sub [3] rfl ?_
      exact he _ _ hf
    · replace hf := if_2 hc hf
      refine j_iload_n hK dX11_isRest_12 3 rfl rfl ?_
      refine j_if_eq hK 36 dX11_isRest_13 (by decide) (fun hc => ?_) (fun hc => ?_)
      · replace hf := if_1 hc hf
        refine j_sub [0, 1, 2, 4] rfl ?_
        exact t_X11_isRest_36 hK hA hk he hf
      · replace hf := if_2 hc hf
        refine j_iload hK dX11_isRest_16 4 rfl ?_
        refine j_iload_n hK dX11_isRest_18 1 rfl rfl ?_
        refine j_iload_n hK dX11_isRest_19 2 rfl rfl ?_
        obtain ⟨r1, S2, h3, hf⟩ := bd_J hf
        refine k_callSi hK (c_X11_gets h3) dX11_isRest_20 ml_X11_432 ms_X11_gets in_X11 mc_X11_gets hy_X11_gets ⟨by decide, by decide⟩ rfl (Nat.le_of_ble_eq_true rfl) ?_
        refine j_iload_n hK dX11_isRest_23 0 rfl rfl ?_
        refine j_iload_n hK dX11_isRest_24 1 rfl rfl ?_
        refine j_iload_n hK dX11_isRest_25 2 rfl rfl ?_
        refine j_pc (pc' := 26) rfl ?_
        obtain ⟨r4, S5, h6, hf⟩ := bd_J hf
        refine k_callSi hK (c_X11_gets h6) dX11_isRest_26 ml_X11_432 ms_X11_gets in_X11 mc_X11_gets hy_X11_gets ⟨by decide, by decide⟩ rfl (Nat.le_of_ble_eq_true rfl) ?_
        refine j_icmp_gt hK 36 dX11_isRest_29 (by decide) (fun hc => ?_) (fun hc => ?_)
        · replace hf := if_1 hc hf
          refine j_sub [0, 1, 2, 4] rfl ?_
          exact t_X11_isRest_36 hK hA hk he hf
        · replace hf := if_2 hc hf
          refine j_iconst hK (1 : Int32) dX11_isRest_32 ic_1 ?_
          refine j_goto hK 37 dX11_isRest_33 (by decide) ?_
          refine j_sub [0, 1, 2, 4] rfl ?_
          exact t_X11_isRest_37 hK hA hk he hf)
def f_X11_isRest (p0 : Int32) (p1 : Int32) (p2 : Int32) (S : St) : Option (Int32 × St) := lp (f_X11_isRest_5b p0 p1 p2 (fun v7 S8 => if v7.1 = 0 ∨ v7.1 = 1 then some (v7.1, S8) else none)) FU ((1 : Int32), (0 : Int32)) S
theorem c_X11_isRest {p0 : Int32} {p1 : Int32} {p2 : Int32} {S : St} {r : Int32} {S' : St} (hf : f_X11_isRest p0 p1 p2 S = some (r, S')) : zM yX11_isRest cX11_isRest 5 2 (some .boolean) [.int p0, .int p1, .int p2] S (some (.int r)) S' := by
  refine zM_of (zpl (by decide)) (Nat.le_of_ble_eq_true rfl) rfl (fun K hK hA => ?_)
  unfold f_X11_isRest at hf
  refine j_iconst hK (1 : Int32) dX11_isRest_0 ic_1 ?_
  refine j_istore_n hK (L' := [(3, .int (1 : Int32)), (0, .int p0), (1, .int p1), (2, .int p2)]) dX11_isRest_1 rfl (by decide) rfl ?_
  refine j_iconst hK (0 : Int32) dX11_isRest_2 ic_0 ?_
  refine j_istore hK (L' := [(4, .int (0 : Int32)), (3, .int (1 : Int32)), (0, .int p0), (1, .int p1), (2, .int p2)]) dX11_isRest_3 (by decide) rfl ?_
  refine j_sub [2, 3, 4, 1, 0] rfl ?_
  refine t_X11_isRest_5 hK hA  (fun v7 S8 hf => ?_) _ _ _ hf
  refine j_iload_n hK dX11_isRest_44 0 rfl rfl ?_
  obtain ⟨hz, hf⟩ := gd hf
  exact j_zret hK dX11_isRest_45 rfl (nz hz) (rt_I hA hf)
def f_X11_rests_84 (x1 : Int32) (x2 : Int32) (x3 : Int32) (x4 : Int32) (k e : Int32 × Int32 → St → Option (Int32 × St)) (S : St) : Option (Int32 × St) := k (x2, (x4 + (1 : Int32))) S
theorem t_X11_rests_84 {K : CT} (hK : KO K cX11_rests RX11 5 3 (some .int)) {r : Int32} {S' : St} (hA : zans K (some (.int r), S')) {x1 : Int32} {x2 : Int32} {x3 : Int32} {x4 : Int32} {k e : Int32 × Int32 → St → Option (Int32 × St)} (hk : ∀ (v : Int32 × Int32) (S : St), k v S = some (r, S') → J K 37 [(0, .ref 122), (1, .int x1), (2, .int v.1), (3, .int x3), (4, .int v.2)] [] S) (he : ∀ (v : Int32 × Int32) (S : St), e v S = some (r, S') → J K 90 [(0, .ref 122), (1, .int x1), (2, .int v.1), (3, .int x3)] [] S) {S : St} (hf : f_X11_rests_84 x1 x2 x3 x4 k e S = some (r, S')) : J K 84 [(0, .ref 122), (1, .int x1), (2, .int x2), (3, .int x3), (4, .int x4)] [] S := by
  unfold f_X11_rests_84 at hf
  refine j_iinc hK (L' := [(4, .int (x4 + (1 : Int32))), (0, .ref 122), (1, .int x1), (2, .int x2), (3, .int x3)]) dX11_rests_84 4 rfl (congrArg (fun y => x4 + y) ic_1) (by decide) rfl ?_
  refine j_goto hK 37 dX11_rests_87 (by decide) ?_
  refine j_sub [1, 2, 3, 4, 0] rfl ?_
  exact hk _ _ hf
def f_X11_rests_81 (x1 : Int32) (x2 : Int32) (x3 : Int32) (x4 : Int32) (k e : Int32 × Int32 → St → Option (Int32 × St)) (S : St) : Option (Int32 × St) := f_X11_rests_84 x1 (x2 + (1 : Int32)) x3 x4 k e S
theorem t_X11_rests_81 {K : CT} (hK : KO K cX11_rests RX11 5 3 (some .int)) {r : Int32} {S' : St} (hA : zans K (some (.int r), S')) {x1 : Int32} {x2 : Int32} {x3 : Int32} {x4 : Int32} {k e : Int32 × Int32 → St → Option (Int32 × St)} (hk : ∀ (v : Int32 × Int32) (S : St), k v S = some (r, S') → J K 37 [(0, .ref 122), (1, .int x1), (2, .int v.1), (3, .int x3), (4, .int v.2)] [] S) (he : ∀ (v : Int32 × Int32) (S : St), e v S = some (r, S') → J K 90 [(0, .ref 122), (1, .int x1), (2, .int v.1), (3, .int x3)] [] S) {S : St} (hf : f_X11_rests_81 x1 x2 x3 x4 k e S = some (r, S')) : J K 81 [(0, .ref 122), (1, .int x1), (2, .int x2), (3, .int x3), (4, .int x4)] [] S := by
  unfold f_X11_rests_81 at hf
  refine j_iinc hK (L' := [(2, .int (x2 + (1 : Int32))), (0, .ref 122), (1, .int x1), (3, .int x3), (4, .int x4)]) dX11_rests_81 2 rfl (congrArg (fun y => x2 + y) ic_1) (by decide) rfl ?_
  refine j_sub [1, 2, 0, 3, 4] rfl ?_
  exact t_X11_rests_84 hK hA hk he hf
def f_X11_rests_37b (x1 : Int32) (x3 : Int32) (e : Int32 × Int32 → St → Option (Int32 × St)) (k : Int32 × Int32 → St → Option (Int32 × St)) (v : Int32 × Int32) (S : St) : Option (Int32 × St) := (if (9 : Int32) < v.2 then e (v.1, v.2) S else bd (f_X11_isRest x3 v.2 x1 S) (fun r1 S2 => (if r1 = 0 then f_X11_rests_84 x1 v.1 x3 v.2 k e S2 else bd (f_X11_isRest v.2 x3 x1 S2) (fun r4 S5 => (if r4 = 0 then f_X11_rests_84 x1 v.1 x3 v.2 k e S5 else (if v.1 = 0 then bd (f_X11_enters x3.toInt64 S5) (fun r7 S8 => bd (f_X11_enters v.2.toInt64 S8) (fun r10 S11 => f_X11_rests_81 x1 v.1 x3 v.2 k e S11)) else f_X11_rests_81 x1 v.1 x3 v.2 k e S5))))))
theorem t_X11_rests_37 {K : CT} (hK : KO K cX11_rests RX11 5 3 (some .int)) {r : Int32} {S' : St} (hA : zans K (some (.int r), S')) {x1 : Int32} {x3 : Int32} {e : Int32 × Int32 → St → Option (Int32 × St)} (he : ∀ (v : Int32 × Int32) (S : St), e v S = some (r, S') → J K 90 [(0, .ref 122), (1, .int x1), (2, .int v.1), (3, .int x3)] [] S) : ∀ (n : Nat) (v : Int32 × Int32) (S : St), lp (f_X11_rests_37b x1 x3 e) n v S = some (r, S') → J K 37 [(0, .ref 122), (1, .int x1), (2, .int v.1), (3, .int x3), (4, .int v.2)] [] S :=
  lp_J (P := fun (v : Int32 × Int32) (S : St) => J K 37 [(0, .ref 122), (1, .int x1), (2, .int v.1), (3, .int x3), (4, .int v.2)] [] S) (fun k hk v S hf => by
    unfold f_X11_rests_37b at hf
    refine j_iload hK dX11_rests_37 4 rfl ?_
    refine j_bipush hK (9 : Int32) dX11_rests_39 bi_9 ?_
    refine j_icmp_gt hK 90 dX11_rests_41 (by decide) (fun hc => ?_) (fun hc => ?_)
    · replace hf := if_1 hc hf
      refine j_sub [0, 1, 2, 3] rfl ?_
      exact he _ _ hf
    · replace hf := if_2 hc hf
      refine j_iload_n hK dX11_rests_44 3 rfl rfl ?_
      refine j_iload hK dX11_rests_45 4 rfl ?_
      refine j_iload_n hK dX11_rests_47 1 rfl rfl ?_
      obtain ⟨r1, S2, h3, hf⟩ := bd_J hf
      refine k_callSi hK (c_X11_isRest h3) dX11_rests_48 ml_X11_437 ms_X11_isRest in_X11 mc_X11_isRest hy_X11_isRest ⟨by decide, by decide⟩ rfl (Nat.le_of_ble_eq_true rfl) ?_
      refine j_if_eq hK 84 dX11_rests_51 (by decide) (fun hc => ?_) (fun hc => ?_)
      · replace hf := if_1 hc hf
        exact t_X11_rests_84 hK hA hk he hf
      · replace hf := if_2 hc hf
        refine j_iload hK dX11_rests_54 4 rfl ?_
        refine j_iload_n hK dX11_rests_56 3 rfl rfl ?_
        refine j_iload_n hK dX11_rests_57 1 rfl rfl ?_
        obtain ⟨r4, S5, h6, hf⟩ := bd_J hf
        refine k_callSi hK (c_X11_isRest h6) dX11_rests_58 ml_X11_437 ms_X11_isRest in_X11 mc_X11_isRest hy_X11_isRest ⟨by decide, by decide⟩ rfl (Nat.le_of_ble_eq_true rfl) ?_
        refine j_if_eq hK 84 dX11_rests_61 (by decide) (fun hc => ?_) (fun hc => ?_)
        · replace hf := if_1 hc hf
          exact t_X11_rests_84 hK hA hk he hf
        · replace hf := if_2 hc hf
          refine j_iload_n hK dX11_rests_64 2 rfl rfl ?_
          refine j_if_ne hK 81 dX11_rests_65 (by decide) (fun hc => ?_) (fun hc => ?_)
          · replace hf := if_2 hc hf
            exact t_X11_rests_81 hK hA hk he hf
          · replace hf := if_1 hc hf
            refine j_aload_n hK dX11_rests_68 0 rfl rfl ?_
            refine j_iload_n hK dX11_rests_69 3 rfl rfl ?_
            refine j_i2l hK dX11_rests_70 ?_
            obtain ⟨r7, S8, h9, hf⟩ := bd_J hf
            refine k_callVv hK (c_X11_enters h9) dX11_rests_71 zclX11 zo_122 ml_X11_340 mi_X11_enters mx_X11_enters in_X11 mc_X11_enters hy_X11_enters ⟨by decide, by decide⟩ rfl (Nat.le_of_ble_eq_true rfl) ?_
            refine j_aload_n hK dX11_rests_74 0 rfl rfl ?_
            refine j_iload hK dX11_rests_75 4 rfl ?_
            refine j_i2l hK dX11_rests_77 ?_
            refine j_pc (pc' := 78) rfl ?_
            obtain ⟨r10, S11, h12, hf⟩ := bd_J hf
            refine k_callVv hK (c_X11_enters h12) dX11_rests_78 zclX11 zo_122 ml_X11_340 mi_X11_enters mx_X11_enters in_X11 mc_X11_enters hy_X11_enters ⟨by decide, by decide⟩ rfl (Nat.le_of_ble_eq_true rfl) ?_
            exact t_X11_rests_81 hK hA hk he hf)
def f_X11_rests_28b (x1 : Int32) (e : Int32 × Int32 → St → Option (Int32 × St)) (k : Int32 × Int32 → St → Option (Int32 × St)) (v : Int32 × Int32) (S : St) : Option (Int32 × St) := (if (9 : Int32) < v.2 then e (v.1, v.2) S else lp (f_X11_rests_37b x1 v.2 (fun v13 S14 => k (v13.1, (v.2 + (1 : Int32))) S14)) FU (v.1, (0 : Int32)) S)
theorem t_X11_rests_28 {K : CT} (hK : KO K cX11_rests RX11 5 3 (some .int)) {r : Int32} {S' : St} (hA : zans K (some (.int r), S')) {x1 : Int32} {e : Int32 × Int32 → St → Option (Int32 × St)} (he : ∀ (v : Int32 × Int32) (S : St), e v S = some (r, S') → J K 96 [(2, .int v.1)] [] S) : ∀ (n : Nat) (v : Int32 × Int32) (S : St), lp (f_X11_rests_28b x1 e) n v S = some (r, S') → J K 28 [(0, .ref 122), (1, .int x1), (2, .int v.1), (3, .int v.2)] [] S :=
  lp_J (P := fun (v : Int32 × Int32) (S : St) => J K 28 [(0, .ref 122), (1, .int x1), (2, .int v.1), (3, .int v.2)] [] S) (fun k hk v S hf => by
    unfold f_X11_rests_28b at hf
    refine j_iload_n hK dX11_rests_28 3 rfl rfl ?_
    refine j_bipush hK (9 : Int32) dX11_rests_29 bi_9 ?_
    refine j_icmp_gt hK 96 dX11_rests_31 (by decide) (fun hc => ?_) (fun hc => ?_)
    · replace hf := if_1 hc hf
      refine j_sub [2] rfl ?_
      exact he _ _ hf
    · replace hf := if_2 hc hf
      refine j_iconst hK (0 : Int32) dX11_rests_34 ic_0 ?_
      refine j_istore hK (L' := [(4, .int (0 : Int32)), (0, .ref 122), (1, .int x1), (2, .int v.1), (3, .int v.2)]) dX11_rests_35 (by decide) rfl ?_
      refine j_sub [1, 2, 3, 4, 0] rfl ?_
      refine t_X11_rests_37 hK hA  (fun v13 S14 hf => ?_) _ _ _ hf
      refine j_iinc hK (L' := [(3, .int (v.2 + (1 : Int32))), (0, .ref 122), (1, .int x1), (2, .int v13.1)]) dX11_rests_90 3 rfl (congrArg (fun y => v.2 + y) ic_1) (by decide) rfl ?_
      refine j_goto hK 28 dX11_rests_93 (by decide) ?_
      refine j_sub [1, 2, 3, 0] rfl ?_
      exact hk _ _ hf)
def f_X11_rests (p1 : Int32) (S : St) : Option (Int32 × St) := lt (sI S 122 0 (0 : Int32)) (fun S15 => bd (f_X11_in p1.toInt64 (0 : Int64) (20 : Int64) S15) (fun r16 S17 => (if r16 = 0 then some ((-1 : Int32), S17) else lt (sI S17 122 1 (0 : Int32)) (fun S19 => lp (f_X11_rests_28b p1 (fun v20 S21 => some (v20.1, S21))) FU ((0 : Int32), (0 : Int32)) S19))))
theorem c_X11_rests {p1 : Int32} {S : St} {r : Int32} {S' : St} (hf : f_X11_rests p1 S = some (r, S')) : zM yX11_rests cX11_rests 5 3 (some .int) [.ref 122, .int p1] S (some (.int r)) S' := by
  refine zM_of (zpl (by decide)) (Nat.le_of_ble_eq_true rfl) rfl (fun K hK hA => ?_)
  unfold f_X11_rests at hf
  refine j_aload_n hK dX11_rests_0 0 rfl rfl ?_
  refine j_iconst hK (0 : Int32) dX11_rests_1 ic_0 ?_
  refine j_putI hK fl_X11_3 dX11_rests_2 zo_122 zf_11_0 ?_
  refine lt_S hf (fun S15 hf => ?_)
  refine j_iload_n hK dX11_rests_5 1 rfl rfl ?_
  refine j_i2l hK dX11_rests_6 ?_
  refine j_lconst hK (0 : Int64) dX11_rests_7 lc_0 ?_
  refine j_ldc2 hK (v := (20 : Int64)) cl_X11_435 dX11_rests_8 ?_
  obtain ⟨r16, S17, h18, hf⟩ := bd_J hf
  refine k_callSi hK (c_X11_in h18) dX11_rests_11 ml_X11_131 ms_X11_in in_X11 mc_X11_in hy_X11_in ⟨by decide, by decide⟩ rfl (Nat.le_of_ble_eq_true rfl) ?_
  refine j_pc (pc' := 14) rfl ?_
  refine j_if_ne hK 19 dX11_rests_14 (by decide) (fun hc => ?_) (fun hc => ?_)
  · replace hf := if_2 hc hf
    refine j_iconst hK (0 : Int32) dX11_rests_19 ic_0 ?_
    refine j_istore_n hK (L' := [(2, .int (0 : Int32)), (0, .ref 122), (1, .int p1)]) dX11_rests_20 rfl (by decide) rfl ?_
    refine j_aload_n hK dX11_rests_21 1 rfl rfl ?_
    refine j_iconst hK (0 : Int32) dX11_rests_22 ic_0 ?_
    refine j_putI hK fl_X11_15 dX11_rests_23 zo_122 zf_11_1 ?_
    refine lt_S hf (fun S19 hf => ?_)
    refine j_iconst hK (0 : Int32) dX11_rests_26 ic_0 ?_
    refine j_istore_n hK (L' := [(3, .int (0 : Int32)), (2, .int (0 : Int32)), (0, .ref 122), (1, .int p1)]) dX11_rests_27 rfl (by decide) rfl ?_
    refine j_sub [2, 3, 1, 0] rfl ?_
    refine t_X11_rests_28 hK hA  (fun v20 S21 hf => ?_) _ _ _ hf
    refine j_iload_n hK dX11_rests_96 0 rfl rfl ?_
    exact j_iret hK dX11_rests_97 rfl (rt_I hA hf)
  · replace hf := if_1 hc hf
    refine j_iconst hK (-1 : Int32) dX11_rests_17 ic_m1 ?_
    exact j_iret hK dX11_rests_18 rfl (rt_I hA hf)
def f_X11_draws (p1 : Int32) (S : St) : Option (Int32 × St) := lt (sI S 122 50 (((gI S 122 50) * (1103515245 : Int32)) + (12345 : Int32))) (fun S1 => if ¬ p1 = 0 then lt ((ushr (gI S1 122 50) (16 : Int32)) - (ushr (gI S1 122 50) (16 : Int32)) / p1 * p1) (fun y2 => some (y2, S1)) else none)
theorem c_X11_draws {p1 : Int32} {S : St} {r : Int32} {S' : St} (hf : f_X11_draws p1 S = some (r, S')) : zM yX11_draws cX11_draws 2 1 (some .int) [.ref 122, .int p1] S (some (.int r)) S' := by
  refine zM_of (zpl (by decide)) (Nat.le_of_ble_eq_true rfl) rfl (fun K hK hA => ?_)
  unfold f_X11_draws at hf
  refine j_aload_n hK dX11_draws_0 0 rfl rfl ?_
  refine j_aload_n hK dX11_draws_1 0 rfl rfl ?_
  refine j_getI hK fl_X11_440 dX11_draws_2 zo_122 zf_11_50 ?_
  refine j_ldcw hK (v := (1103515245 : Int32)) cn_X11_443 dX11_draws_5 ?_
  refine j_imul hK dX11_draws_8 ?_
  refine j_sipush hK (12345 : Int32) dX11_draws_9 si_12345 ?_
  refine j_iadd hK dX11_draws_12 ?_
  refine j_putI hK fl_X11_440 dX11_draws_13 zo_122 zf_11_50 ?_
  refine lt_S hf (fun S1 hf => ?_)
  refine j_pc (pc' := 16) rfl ?_
  refine j_aload_n hK dX11_draws_16 0 rfl rfl ?_
  refine j_getI hK fl_X11_440 dX11_draws_17 zo_122 zf_11_50 ?_
  refine j_bipush hK (16 : Int32) dX11_draws_20 bi_16 ?_
  refine j_iushr hK dX11_draws_22 ?_
  refine j_iload_n hK dX11_draws_23 1 rfl rfl ?_
  obtain ⟨hn3, hf⟩ := gd hf
  refine j_irem hK dX11_draws_24 hn3 ?_
  refine lt_I hf (fun y2 hf => ?_)
  exact j_iret hK dX11_draws_25 rfl (rt_I hA hf)
def f_X11_years_159 (x2 : Int32) (x3 : Int32) (x4 : Int32) (k e : Int32 × Int32 → St → Option (Int32 × St)) (S : St) : Option (Int32 × St) := k (x3, (x4 + (1 : Int32))) S
theorem t_X11_years_159 {K : CT} (hK : KO K cX11_years RX11 8 4 (some .int)) {r : Int32} {S' : St} (hA : zans K (some (.int r), S')) {x2 : Int32} {x3 : Int32} {x4 : Int32} {k e : Int32 × Int32 → St → Option (Int32 × St)} (hk : ∀ (v : Int32 × Int32) (S : St), k v S = some (r, S') → J K 33 [(0, .ref 122), (2, .int x2), (3, .int v.1), (4, .int v.2)] [] S) (he : ∀ (v : Int32 × Int32) (S : St), e v S = some (r, S') → J K 165 [(0, .ref 122), (3, .int v.1)] [] S) {S : St} (hf : f_X11_years_159 x2 x3 x4 k e S = some (r, S')) : J K 159 [(0, .ref 122), (2, .int x2), (3, .int x3), (4, .int x4)] [] S := by
  unfold f_X11_years_159 at hf
  refine j_iinc hK (L' := [(4, .int (x4 + (1 : Int32))), (0, .ref 122), (2, .int x2), (3, .int x3)]) dX11_years_159 3 rfl (congrArg (fun y => x4 + y) ic_1) (by decide) rfl ?_
  refine j_goto hK 33 dX11_years_162 (by decide) ?_
  refine j_sub [1, 2, 3, 0] rfl ?_
  exact hk _ _ hf
def f_X11_years_135 (x2 : Int32) (x3 : Int32) (x4 : Int32) (k e : Int32 × Int32 → St → Option (Int32 × St)) (S : St) : Option (Int32 × St) := (if (gI S 122 3) ≤ 0 then f_X11_years_159 x2 x3 x4 k e S else bd (f_X11_draws (gI S 122 3) S) (fun r1 S2 => bd (f_X11_fallsOne 127 r1 S2) (fun r4 S5 => f_X11_years_159 x2 x3 x4 k e S5)))
theorem t_X11_years_135 {K : CT} (hK : KO K cX11_years RX11 8 4 (some .int)) {r : Int32} {S' : St} (hA : zans K (some (.int r), S')) {x2 : Int32} {x3 : Int32} {x4 : Int32} {k e : Int32 × Int32 → St → Option (Int32 × St)} (hk : ∀ (v : Int32 × Int32) (S : St), k v S = some (r, S') → J K 33 [(0, .ref 122), (2, .int x2), (3, .int v.1), (4, .int v.2)] [] S) (he : ∀ (v : Int32 × Int32) (S : St), e v S = some (r, S') → J K 165 [(0, .ref 122), (3, .int v.1)] [] S) {S : St} (hf : f_X11_years_135 x2 x3 x4 k e S = some (r, S')) : J K 135 [(0, .ref 122), (2, .int x2), (3, .int x3), (4, .int x4)] [] S := by
  unfold f_X11_years_135 at hf
  refine j_aload_n hK dX11_years_135 0 rfl rfl ?_
  refine j_getI hK fl_X11_128 dX11_years_136 zo_122 zf_11_3 ?_
  refine j_if_le hK 159 dX11_years_139 (by decide) (fun hc => ?_) (fun hc => ?_)
  · replace hf := if_1 hc hf
    exact t_X11_years_159 hK hA hk he hf
  · replace hf := if_2 hc hf
    refine j_aload_n hK dX11_years_142 0 rfl rfl ?_
    refine j_aload_n hK dX11_years_143 0 rfl rfl ?_
    refine j_getR hK fl_X11_34 dX11_years_144 zo_122 zf_11_8 zr_122_8 ?_
    refine j_aload_n hK dX11_years_147 0 rfl rfl ?_
    refine j_aload_n hK dX11_years_148 0 rfl rfl ?_
    refine j_getI hK fl_X11_128 dX11_years_149 zo_122 zf_11_3 ?_
    obtain ⟨r1, S2, h3, hf⟩ := bd_J hf
    refine k_callVi hK (c_X11_draws h3) dX11_years_152 zclX11 zo_122 ml_X11_447 mi_X11_draws mx_X11_draws in_X11 mc_X11_draws hy_X11_draws ⟨by decide, by decide⟩ rfl (Nat.le_of_ble_eq_true rfl) ?_
    refine j_pc (pc' := 155) rfl ?_
    obtain ⟨r4, S5, h6, hf⟩ := bd_J hf
    refine k_callVi hK (c_X11_fallsOne zb_127 h6) dX11_years_155 zclX11 zo_122 ml_X11_367 mi_X11_fallsOne mx_X11_fallsOne in_X11 mc_X11_fallsOne hy_X11_fallsOne ⟨by decide, by decide⟩ rfl (Nat.le_of_ble_eq_true rfl) ?_
    refine j_pop hK dX11_years_158 rfl ?_
    exact t_X11_years_159 hK hA hk he hf
def f_X11_years_132 (x2 : Int32) (x3 : Int32) (x4 : Int32) (k e : Int32 × Int32 → St → Option (Int32 × St)) (S : St) : Option (Int32 × St) := f_X11_years_159 x2 x3 x4 k e S
theorem t_X11_years_132 {K : CT} (hK : KO K cX11_years RX11 8 4 (some .int)) {r : Int32} {S' : St} (hA : zans K (some (.int r), S')) {x2 : Int32} {x3 : Int32} {x4 : Int32} {k e : Int32 × Int32 → St → Option (Int32 × St)} (hk : ∀ (v : Int32 × Int32) (S : St), k v S = some (r, S') → J K 33 [(0, .ref 122), (2, .int x2), (3, .int v.1), (4, .int v.2)] [] S) (he : ∀ (v : Int32 × Int32) (S : St), e v S = some (r, S') → J K 165 [(0, .ref 122), (3, .int v.1)] [] S) {S : St} (hf : f_X11_years_132 x2 x3 x4 k e S = some (r, S')) : J K 132 [(0, .ref 122), (2, .int x2), (3, .int x3), (4, .int x4)] [] S := by
  unfold f_X11_years_132 at hf
  refine j_goto hK 159 dX11_years_132 (by decide) ?_
  exact t_X11_years_159 hK hA hk he hf
def f_X11_years_33b (x2 : Int32) (e : Int32 × Int32 → St → Option (Int32 × St)) (k : Int32 × Int32 → St → Option (Int32 × St)) (v : Int32 × Int32) (S : St) : Option (Int32 × St) := (if x2 ≤ v.2 then e (v.1, v.2) S else bd (f_X11_draws (4 : Int32) S) (fun r7 S8 => (if r7 = 0 then bd (f_X11_hoursGo 127 (1 : Int32) S8) (fun r25 S26 => f_X11_years_159 x2 v.1 v.2 k e S26) else (if (gI S8 122 3) ≤ 0 then f_X11_years_135 x2 v.1 v.2 k e S8 else (if (3 : Int32) ≤ r7 then f_X11_years_135 x2 v.1 v.2 k e S8 else bd (f_X11_draws (8 : Int32) S8) (fun r10 S11 => bd (f_X11_draws (gI S11 122 3) S11) (fun r13 S14 => bd (f_X11_isEcho 127 r10 r13 S14) (fun r16 S17 => (if r16 = 0 then f_X11_years_132 x2 v.1 v.2 k e S17 else bd (f_X11_laysEcho 127 r10 r13 S17) (fun r19 S20 => bd (f_X11_wears 127 S20) (fun r22 S23 => f_X11_years_132 x2 (v.1 + (1 : Int32)) v.2 k e S23)))))))))))
theorem t_X11_years_33 {K : CT} (hK : KO K cX11_years RX11 8 4 (some .int)) {r : Int32} {S' : St} (hA : zans K (some (.int r), S')) {x2 : Int32} {e : Int32 × Int32 → St → Option (Int32 × St)} (he : ∀ (v : Int32 × Int32) (S : St), e v S = some (r, S') → J K 165 [(0, .ref 122), (3, .int v.1)] [] S) : ∀ (n : Nat) (v : Int32 × Int32) (S : St), lp (f_X11_years_33b x2 e) n v S = some (r, S') → J K 33 [(0, .ref 122), (2, .int x2), (3, .int v.1), (4, .int v.2)] [] S :=
  lp_J (P := fun (v : Int32 × Int32) (S : St) => J K 33 [(0, .ref 122), (2, .int x2), (3, .int v.1), (4, .int v.2)] [] S) (fun k hk v S hf => by
    unfold f_X11_years_33b at hf
    refine j_iload hK dX11_years_33 3 rfl ?_
    refine j_iload_n hK dX11_years_35 1 rfl rfl ?_
    refine j_icmp_ge hK 165 dX11_years_36 (by decide) (fun hc => ?_) (fun hc => ?_)
    · replace hf := if_1 hc hf
      refine j_sub [0, 2] rfl ?_
      exact he _ _ hf
    · replace hf := if_2 hc hf
      refine j_aload_n hK dX11_years_39 0 rfl rfl ?_
      refine j_iconst hK (4 : Int32) dX11_years_40 ic_4 ?_
      obtain ⟨r7, S8, h9, hf⟩ := bd_J hf
      refine k_callVi hK (c_X11_draws h9) dX11_years_41 zclX11 zo_122 ml_X11_447 mi_X11_draws mx_X11_draws in_X11 mc_X11_draws hy_X11_draws ⟨by decide, by decide⟩ rfl (Nat.le_of_ble_eq_true rfl) ?_
      refine j_istore hK (L' := [(5, .int r7), (0, .ref 122), (2, .int x2), (3, .int v.1), (4, .int v.2)]) dX11_years_44 (by decide) rfl ?_
      refine j_iload hK dX11_years_46 0 rfl ?_
      refine j_if_ne hK 63 dX11_years_48 (by decide) (fun hc => ?_) (fun hc => ?_)
      · replace hf := if_2 hc hf
        refine j_aload_n hK dX11_years_63 1 rfl rfl ?_
        refine j_getI hK fl_X11_128 dX11_years_64 zo_122 zf_11_3 ?_
        refine j_if_le hK 135 dX11_years_67 (by decide) (fun hc => ?_) (fun hc => ?_)
        · replace hf := if_1 hc hf
          refine j_sub [1, 2, 3, 4] rfl ?_
          exact t_X11_years_135 hK hA hk he hf
        · replace hf := if_2 hc hf
          refine j_iload hK dX11_years_70 0 rfl ?_
          refine j_iconst hK (3 : Int32) dX11_years_72 ic_3 ?_
          refine j_icmp_ge hK 135 dX11_years_73 (by decide) (fun hc => ?_) (fun hc => ?_)
          · replace hf := if_1 hc hf
            refine j_sub [1, 2, 3, 4] rfl ?_
            exact t_X11_years_135 hK hA hk he hf
          · replace hf := if_2 hc hf
            refine j_aload_n hK dX11_years_76 1 rfl rfl ?_
            refine j_bipush hK (8 : Int32) dX11_years_77 bi_8 ?_
            obtain ⟨r10, S11, h12, hf⟩ := bd_J hf
            refine k_callVi hK (c_X11_draws h12) dX11_years_79 zclX11 zo_122 ml_X11_447 mi_X11_draws mx_X11_draws in_X11 mc_X11_draws hy_X11_draws ⟨by decide, by decide⟩ rfl (Nat.le_of_ble_eq_true rfl) ?_
            refine j_istore hK (L' := [(6, .int r10), (5, .int r7), (0, .ref 122), (2, .int x2), (3, .int v.1), (4, .int v.2)]) dX11_years_82 (by decide) rfl ?_
            refine j_aload_n hK dX11_years_84 2 rfl rfl ?_
            refine j_aload_n hK dX11_years_85 2 rfl rfl ?_
            refine j_getI hK fl_X11_128 dX11_years_86 zo_122 zf_11_3 ?_
            refine j_pc (pc' := 89) rfl ?_
            obtain ⟨r13, S14, h15, hf⟩ := bd_J hf
            refine k_callVi hK (c_X11_draws h15) dX11_years_89 zclX11 zo_122 ml_X11_447 mi_X11_draws mx_X11_draws in_X11 mc_X11_draws hy_X11_draws ⟨by decide, by decide⟩ rfl (Nat.le_of_ble_eq_true rfl) ?_
            refine j_istore hK (L' := [(7, .int r13), (6, .int r10), (5, .int r7), (0, .ref 122), (2, .int x2), (3, .int v.1), (4, .int v.2)]) dX11_years_92 (by decide) rfl ?_
            refine j_aload_n hK dX11_years_94 3 rfl rfl ?_
            refine j_aload_n hK dX11_years_95 3 rfl rfl ?_
            refine j_getR hK fl_X11_34 dX11_years_96 zo_122 zf_11_8 zr_122_8 ?_
            refine j_iload hK dX11_years_99 1 rfl ?_
            refine j_iload hK dX11_years_101 0 rfl ?_
            obtain ⟨r16, S17, h18, hf⟩ := bd_J hf
            refine k_callVi hK (c_X11_isEcho zb_127 h18) dX11_years_103 zclX11 zo_122 ml_X11_326 mi_X11_isEcho mx_X11_isEcho in_X11 mc_X11_isEcho hy_X11_isEcho ⟨by decide, by decide⟩ rfl (Nat.le_of_ble_eq_true rfl) ?_
            refine j_pc (pc' := 106) rfl ?_
            refine j_if_eq hK 132 dX11_years_106 (by decide) (fun hc => ?_) (fun hc => ?_)
            · replace hf := if_1 hc hf
              refine j_sub [3, 4, 5, 6] rfl ?_
              exact t_X11_years_132 hK hA hk he hf
            · replace hf := if_2 hc hf
              refine j_aload_n hK dX11_years_109 3 rfl rfl ?_
              refine j_aload_n hK dX11_years_110 3 rfl rfl ?_
              refine j_getR hK fl_X11_34 dX11_years_111 zo_122 zf_11_8 zr_122_8 ?_
              refine j_iload hK dX11_years_114 1 rfl ?_
              refine j_iload hK dX11_years_116 0 rfl ?_
              obtain ⟨r19, S20, h21, hf⟩ := bd_J hf
              refine k_callVv hK (c_X11_laysEcho zb_127 h21) dX11_years_118 zclX11 zo_122 ml_X11_336 mi_X11_laysEcho mx_X11_laysEcho in_X11 mc_X11_laysEcho hy_X11_laysEcho ⟨by decide, by decide⟩ rfl (Nat.le_of_ble_eq_true rfl) ?_
              refine j_aload_n hK dX11_years_121 3 rfl rfl ?_
              refine j_pc (pc' := 122) rfl ?_
              refine j_aload_n hK dX11_years_122 3 rfl rfl ?_
              refine j_getR hK fl_X11_34 dX11_years_123 zo_122 zf_11_8 zr_122_8 ?_
              obtain ⟨r22, S23, h24, hf⟩ := bd_J hf
              refine k_callVv hK (c_X11_wears zb_127 h24) dX11_years_126 zclX11 zo_122 ml_X11_351 mi_X11_wears mx_X11_wears in_X11 mc_X11_wears hy_X11_wears ⟨by decide, by decide⟩ rfl (Nat.le_of_ble_eq_true rfl) ?_
              refine j_iinc hK (L' := [(3, .int (v.1 + (1 : Int32))), (7, .int r13), (6, .int r10), (5, .int r7), (0, .ref 122), (2, .int x2), (4, .int v.2)]) dX11_years_129 5 rfl (congrArg (fun y => v.1 + y) ic_1) (by decide) rfl ?_
              refine j_sub [4, 5, 0, 6] rfl ?_
              exact t_X11_years_132 hK hA hk he hf
      · replace hf := if_1 hc hf
        refine j_aload_n hK dX11_years_51 1 rfl rfl ?_
        refine j_aload_n hK dX11_years_52 1 rfl rfl ?_
        refine j_getR hK fl_X11_34 dX11_years_53 zo_122 zf_11_8 zr_122_8 ?_
        refine j_iconst hK (1 : Int32) dX11_years_56 ic_1 ?_
        obtain ⟨r25, S26, h27, hf⟩ := bd_J hf
        refine k_callVv hK (c_X11_hoursGo zb_127 h27) dX11_years_57 zclX11 zo_122 ml_X11_364 mi_X11_hoursGo mx_X11_hoursGo in_X11 mc_X11_hoursGo hy_X11_hoursGo ⟨by decide, by decide⟩ rfl (Nat.le_of_ble_eq_true rfl) ?_
        refine j_goto hK 159 dX11_years_60 (by decide) ?_
        refine j_sub [1, 2, 3, 4] rfl ?_
        exact t_X11_years_159 hK hA hk he hf)
def f_X11_years (p1 : Int32) (p2 : Int32) (S : St) : Option (Int32 × St) := lt (sI S 122 0 (0 : Int32)) (fun S28 => bd (f_X11_in p2.toInt64 (1 : Int64) (60 : Int64) S28) (fun r29 S30 => (if r29 = 0 then some ((-1 : Int32), S30) else lt (sI S30 122 50 p1) (fun S32 => bd (f_X11_copies S32) (fun r33 S34 => lp (f_X11_years_33b p2 (fun v36 S37 => lt (sI S37 122 1 (0 : Int32)) (fun S38 => bd (f_J6_bitCount_0f7a4 (gI S38 127 36) S38) (fun r39 S40 => bd (f_X11_enters r39.toInt64 S40) (fun r42 S43 => bd (f_X11_enters v36.1.toInt64 S43) (fun r45 S46 => bd (f_X11_sumOf 127 (24 : Int32) S46) (fun r48 S49 => some (r48, S49)))))))) FU ((0 : Int32), (0 : Int32)) S34)))))
theorem c_X11_years {p1 : Int32} {p2 : Int32} {S : St} {r : Int32} {S' : St} (hf : f_X11_years p1 p2 S = some (r, S')) : zM yX11_years cX11_years 8 4 (some .int) [.ref 122, .int p1, .int p2] S (some (.int r)) S' := by
  refine zM_of (zpl (by decide)) (Nat.le_of_ble_eq_true rfl) rfl (fun K hK hA => ?_)
  unfold f_X11_years at hf
  refine j_aload_n hK dX11_years_0 0 rfl rfl ?_
  refine j_iconst hK (0 : Int32) dX11_years_1 ic_0 ?_
  refine j_putI hK fl_X11_3 dX11_years_2 zo_122 zf_11_0 ?_
  refine lt_S hf (fun S28 hf => ?_)
  refine j_iload_n hK dX11_years_5 2 rfl rfl ?_
  refine j_i2l hK dX11_years_6 ?_
  refine j_lconst hK (1 : Int64) dX11_years_7 lc_1 ?_
  refine j_ldc2 hK (v := (60 : Int64)) cl_X11_362 dX11_years_8 ?_
  obtain ⟨r29, S30, h31, hf⟩ := bd_J hf
  refine k_callSi hK (c_X11_in h31) dX11_years_11 ml_X11_131 ms_X11_in in_X11 mc_X11_in hy_X11_in ⟨by decide, by decide⟩ rfl (Nat.le_of_ble_eq_true rfl) ?_
  refine j_pc (pc' := 14) rfl ?_
  refine j_if_ne hK 19 dX11_years_14 (by decide) (fun hc => ?_) (fun hc => ?_)
  · replace hf := if_2 hc hf
    refine j_aload_n hK dX11_years_19 0 rfl rfl ?_
    refine j_iload_n hK dX11_years_20 1 rfl rfl ?_
    refine j_putI hK fl_X11_440 dX11_years_21 zo_122 zf_11_50 ?_
    refine lt_S hf (fun S32 hf => ?_)
    refine j_aload_n hK dX11_years_24 0 rfl rfl ?_
    obtain ⟨r33, S34, h35, hf⟩ := bd_J hf
    refine k_callVv hK (c_X11_copies h35) dX11_years_25 zclX11 zo_122 ml_X11_444 mi_X11_copies mx_X11_copies in_X11 mc_X11_copies hy_X11_copies ⟨by decide, by decide⟩ rfl (Nat.le_of_ble_eq_true rfl) ?_
    refine j_iconst hK (0 : Int32) dX11_years_28 ic_0 ?_
    refine j_istore_n hK (L' := [(3, .int (0 : Int32)), (0, .ref 122), (1, .int p1), (2, .int p2)]) dX11_years_29 rfl (by decide) rfl ?_
    refine j_pc (pc' := 30) rfl ?_
    refine j_iconst hK (0 : Int32) dX11_years_30 ic_0 ?_
    refine j_istore hK (L' := [(4, .int (0 : Int32)), (3, .int (0 : Int32)), (0, .ref 122), (1, .int p1), (2, .int p2)]) dX11_years_31 (by decide) rfl ?_
    refine j_sub [2, 4, 1, 0] rfl ?_
    refine t_X11_years_33 hK hA  (fun v36 S37 hf => ?_) _ _ _ hf
    refine j_aload_n hK dX11_years_165 0 rfl rfl ?_
    refine j_iconst hK (0 : Int32) dX11_years_166 ic_0 ?_
    refine j_putI hK fl_X11_15 dX11_years_167 zo_122 zf_11_1 ?_
    refine lt_S hf (fun S38 hf => ?_)
    refine j_aload_n hK dX11_years_170 0 rfl rfl ?_
    refine j_aload_n hK dX11_years_171 0 rfl rfl ?_
    refine j_getR hK fl_X11_34 dX11_years_172 zo_122 zf_11_8 zr_122_8 ?_
    refine j_bipush hK (36 : Int32) dX11_years_175 bi_36 ?_
    refine j_pc (pc' := 177) rfl ?_
    refine k_iald hK dX11_years_177 zb_127 (by decide) tn_36 ?_
    obtain ⟨r39, S40, h41, hf⟩ := bd_J hf
    refine k_callSi hK (c_J6_bitCount_0f7a4 h41) dX11_years_178 ml_X11_355 ms_J6_bitCount_0f7a4 in_J6 mc_J6_bitCount_0f7a4 hy_J6_bitCount_0f7a4 ⟨by decide, by decide⟩ rfl (Nat.le_of_ble_eq_true rfl) ?_
    refine j_i2l hK dX11_years_181 ?_
    obtain ⟨r42, S43, h44, hf⟩ := bd_J hf
    refine k_callVv hK (c_X11_enters h44) dX11_years_182 zclX11 zo_122 ml_X11_340 mi_X11_enters mx_X11_enters in_X11 mc_X11_enters hy_X11_enters ⟨by decide, by decide⟩ rfl (Nat.le_of_ble_eq_true rfl) ?_
    refine j_aload_n hK dX11_years_185 0 rfl rfl ?_
    refine j_iload_n hK dX11_years_186 1 rfl rfl ?_
    refine j_i2l hK dX11_years_187 ?_
    obtain ⟨r45, S46, h47, hf⟩ := bd_J hf
    refine k_callVv hK (c_X11_enters h47) dX11_years_188 zclX11 zo_122 ml_X11_340 mi_X11_enters mx_X11_enters in_X11 mc_X11_enters hy_X11_enters ⟨by decide, by decide⟩ rfl (Nat.le_of_ble_eq_true rfl) ?_
    refine j_pc (pc' := 191) rfl ?_
    refine j_aload_n hK dX11_years_191 0 rfl rfl ?_
    refine j_aload_n hK dX11_years_192 0 rfl rfl ?_
    refine j_getR hK fl_X11_34 dX11_years_193 zo_122 zf_11_8 zr_122_8 ?_
    refine j_bipush hK (24 : Int32) dX11_years_196 bi_24 ?_
    obtain ⟨r48, S49, h50, hf⟩ := bd_J hf
    refine k_callVi hK (c_X11_sumOf zb_127 h50) dX11_years_198 zclX11 zo_122 ml_X11_316 mi_X11_sumOf mx_X11_sumOf in_X11 mc_X11_sumOf hy_X11_sumOf ⟨by decide, by decide⟩ rfl (Nat.le_of_ble_eq_true rfl) ?_
    exact j_iret hK dX11_years_201 rfl (rt_I hA hf)
  · replace hf := if_1 hc hf
    refine j_iconst hK (-1 : Int32) dX11_years_17 ic_m1 ?_
    exact j_iret hK dX11_years_18 rfl (rt_I hA hf)
def f_X11_keep_38b (x1 : Int32) (e : Int32 → St → Option (Int32 × St)) (k : Int32 → St → Option (Int32 × St)) (v : Int32) (S : St) : Option (Int32 × St) := (if (39 : Int32) ≤ v then e v S else if inb v 39 then if inb (((39 : Int32) * x1) + v) 117 then lt (sI S 157 (((39 : Int32) * x1) + v).toNatClampNeg (gI S 126 v.toNatClampNeg)) (fun S3 => k (v + (1 : Int32)) S3) else none else none)
theorem t_X11_keep_38 {K : CT} (hK : KO K cX11_keep RX11 3 2 (some .boolean)) {r : Int32} {S' : St} (hA : zans K (some (.int r), S')) {x1 : Int32} {e : Int32 → St → Option (Int32 × St)} (he : ∀ (v : Int32) (S : St), e v S = some (r, S') → J K 67 [] [] S) : ∀ (n : Nat) (v : Int32) (S : St), lp (f_X11_keep_38b x1 e) n v S = some (r, S') → J K 38 [(0, .ref 122), (1, .int x1), (2, .int v)] [] S :=
  lp_J (P := fun (v : Int32) (S : St) => J K 38 [(0, .ref 122), (1, .int x1), (2, .int v)] [] S) (fun k hk v S hf => by
    unfold f_X11_keep_38b at hf
    refine j_iload_n hK dX11_keep_38 2 rfl rfl ?_
    refine j_bipush hK (39 : Int32) dX11_keep_39 bi_39 ?_
    refine j_icmp_ge hK 67 dX11_keep_41 (by decide) (fun hc => ?_) (fun hc => ?_)
    · replace hf := if_1 hc hf
      refine j_sub [] rfl ?_
      exact he _ _ hf
    · replace hf := if_2 hc hf
      refine j_aload_n hK dX11_keep_44 0 rfl rfl ?_
      refine j_getR hK fl_X11_125 dX11_keep_45 zo_122 zf_11_53 zr_122_53 ?_
      refine j_bipush hK (39 : Int32) dX11_keep_48 bi_39 ?_
      refine j_iload_n hK dX11_keep_50 1 rfl rfl ?_
      refine j_imul hK dX11_keep_51 ?_
      refine j_iload_n hK dX11_keep_52 2 rfl rfl ?_
      refine j_iadd hK dX11_keep_53 ?_
      refine j_pc (pc' := 54) rfl ?_
      refine j_aload_n hK dX11_keep_54 0 rfl rfl ?_
      refine j_getR hK fl_X11_31 dX11_keep_55 zo_122 zf_11_7 zr_122_7 ?_
      refine j_iload_n hK dX11_keep_58 2 rfl rfl ?_
      obtain ⟨hi1, hf⟩ := gd hf
      refine k_iald hK dX11_keep_59 zb_126 hi1 rfl ?_
      obtain ⟨hi2, hf⟩ := gd hf
      refine k_iast hK dX11_keep_60 zb_157 hi2 rfl ?_
      refine lt_S hf (fun S3 hf => ?_)
      refine j_iinc hK (L' := [(2, .int (v + (1 : Int32))), (0, .ref 122), (1, .int x1)]) dX11_keep_61 2 rfl (congrArg (fun y => v + y) ic_1) (by decide) rfl ?_
      refine j_goto hK 38 dX11_keep_64 (by decide) ?_
      refine j_sub [1, 2, 0] rfl ?_
      exact hk _ _ hf)
def f_X11_keep (p1 : Int32) (S : St) : Option (Int32 × St) := lt (sI S 122 0 (0 : Int32)) (fun S4 => bd (f_X11_in p1.toInt64 (0 : Int64) (2 : Int64) S4) (fun r5 S6 => (if r5 = 0 then some ((0 : Int32), S6) else if inb p1 3 then lt (sI S6 155 p1.toNatClampNeg (vp_nar .boolean (1 : Int32))) (fun S9 => if inb p1 3 then lt (sI S9 156 p1.toNatClampNeg (gI S9 122 4)) (fun S11 => lp (f_X11_keep_38b p1 (fun v12 S13 => some ((1 : Int32), S13))) FU (0 : Int32) S11) else none) else none)))
theorem c_X11_keep {p1 : Int32} {S : St} {r : Int32} {S' : St} (hf : f_X11_keep p1 S = some (r, S')) : zM yX11_keep cX11_keep 3 2 (some .boolean) [.ref 122, .int p1] S (some (.int r)) S' := by
  refine zM_of (zpl (by decide)) (Nat.le_of_ble_eq_true rfl) rfl (fun K hK hA => ?_)
  unfold f_X11_keep at hf
  refine j_aload_n hK dX11_keep_0 0 rfl rfl ?_
  refine j_iconst hK (0 : Int32) dX11_keep_1 ic_0 ?_
  refine j_putI hK fl_X11_3 dX11_keep_2 zo_122 zf_11_0 ?_
  refine lt_S hf (fun S4 hf => ?_)
  refine j_iload_n hK dX11_keep_5 1 rfl rfl ?_
  refine j_i2l hK dX11_keep_6 ?_
  refine j_lconst hK (0 : Int64) dX11_keep_7 lc_0 ?_
  refine j_ldc2 hK (v := (2 : Int64)) cl_X11_300 dX11_keep_8 ?_
  obtain ⟨r5, S6, h7, hf⟩ := bd_J hf
  refine k_callSi hK (c_X11_in h7) dX11_keep_11 ml_X11_131 ms_X11_in in_X11 mc_X11_in hy_X11_in ⟨by decide, by decide⟩ rfl (Nat.le_of_ble_eq_true rfl) ?_
  refine j_pc (pc' := 14) rfl ?_
  refine j_if_ne hK 19 dX11_keep_14 (by decide) (fun hc => ?_) (fun hc => ?_)
  · replace hf := if_2 hc hf
    refine j_aload_n hK dX11_keep_19 0 rfl rfl ?_
    refine j_getR hK fl_X11_119 dX11_keep_20 zo_122 zf_11_51 zr_122_51 ?_
    refine j_iload_n hK dX11_keep_23 1 rfl rfl ?_
    refine j_iconst hK (1 : Int32) dX11_keep_24 ic_1 ?_
    obtain ⟨hi8, hf⟩ := gd hf
    refine k_zast hK dX11_keep_25 zb_155 hi8 rfl ?_
    refine lt_S hf (fun S9 hf => ?_)
    refine j_aload_n hK dX11_keep_26 0 rfl rfl ?_
    refine j_getR hK fl_X11_122 dX11_keep_27 zo_122 zf_11_52 zr_122_52 ?_
    refine j_pc (pc' := 30) rfl ?_
    refine j_iload_n hK dX11_keep_30 1 rfl rfl ?_
    refine j_aload_n hK dX11_keep_31 0 rfl rfl ?_
    refine j_getI hK fl_X11_209 dX11_keep_32 zo_122 zf_11_4 ?_
    obtain ⟨hi10, hf⟩ := gd hf
    refine k_iast hK dX11_keep_35 zb_156 hi10 rfl ?_
    refine lt_S hf (fun S11 hf => ?_)
    refine j_iconst hK (0 : Int32) dX11_keep_36 ic_0 ?_
    refine j_istore_n hK (L' := [(2, .int (0 : Int32)), (0, .ref 122), (1, .int p1)]) dX11_keep_37 rfl (by decide) rfl ?_
    refine j_sub [1, 2, 0] rfl ?_
    refine t_X11_keep_38 hK hA  (fun v12 S13 hf => ?_) _ _ _ hf
    refine j_iconst hK (1 : Int32) dX11_keep_67 ic_1 ?_
    exact j_zret hK dX11_keep_68 rfl rfl (rt_I hA hf)
  · replace hf := if_1 hc hf
    refine j_iconst hK (0 : Int32) dX11_keep_17 ic_0 ?_
    exact j_zret hK dX11_keep_18 rfl rfl (rt_I hA hf)
def f_X11_again_43b (x1 : Int32) (e : Int32 → St → Option (Int32 × St)) (k : Int32 → St → Option (Int32 × St)) (v : Int32) (S : St) : Option (Int32 × St) := (if (39 : Int32) ≤ v then e v S else if inb (((39 : Int32) * x1) + v) 117 then if inb v 39 then lt (sI S 126 v.toNatClampNeg (gI S 157 (((39 : Int32) * x1) + v).toNatClampNeg)) (fun S3 => k (v + (1 : Int32)) S3) else none else none)
theorem t_X11_again_43 {K : CT} (hK : KO K cX11_again RX11 3 2 (some .boolean)) {r : Int32} {S' : St} (hA : zans K (some (.int r), S')) {x1 : Int32} {e : Int32 → St → Option (Int32 × St)} (he : ∀ (v : Int32) (S : St), e v S = some (r, S') → J K 72 [(0, .ref 122)] [] S) : ∀ (n : Nat) (v : Int32) (S : St), lp (f_X11_again_43b x1 e) n v S = some (r, S') → J K 43 [(0, .ref 122), (1, .int x1), (2, .int v)] [] S :=
  lp_J (P := fun (v : Int32) (S : St) => J K 43 [(0, .ref 122), (1, .int x1), (2, .int v)] [] S) (fun k hk v S hf => by
    unfold f_X11_again_43b at hf
    refine j_iload_n hK dX11_again_43 2 rfl rfl ?_
    refine j_bipush hK (39 : Int32) dX11_again_44 bi_39 ?_
    refine j_icmp_ge hK 72 dX11_again_46 (by decide) (fun hc => ?_) (fun hc => ?_)
    · replace hf := if_1 hc hf
      refine j_sub [0] rfl ?_
      exact he _ _ hf
    · replace hf := if_2 hc hf
      refine j_aload_n hK dX11_again_49 0 rfl rfl ?_
      refine j_getR hK fl_X11_31 dX11_again_50 zo_122 zf_11_7 zr_122_7 ?_
      refine j_iload_n hK dX11_again_53 2 rfl rfl ?_
      refine j_aload_n hK dX11_again_54 0 rfl rfl ?_
      refine j_getR hK fl_X11_125 dX11_again_55 zo_122 zf_11_53 zr_122_53 ?_
      refine j_bipush hK (39 : Int32) dX11_again_58 bi_39 ?_
      refine j_iload_n hK dX11_again_60 1 rfl rfl ?_
      refine j_pc (pc' := 61) rfl ?_
      refine j_imul hK dX11_again_61 ?_
      refine j_iload_n hK dX11_again_62 2 rfl rfl ?_
      refine j_iadd hK dX11_again_63 ?_
      obtain ⟨hi1, hf⟩ := gd hf
      refine k_iald hK dX11_again_64 zb_157 hi1 rfl ?_
      obtain ⟨hi2, hf⟩ := gd hf
      refine k_iast hK dX11_again_65 zb_126 hi2 rfl ?_
      refine lt_S hf (fun S3 hf => ?_)
      refine j_iinc hK (L' := [(2, .int (v + (1 : Int32))), (0, .ref 122), (1, .int x1)]) dX11_again_66 2 rfl (congrArg (fun y => v + y) ic_1) (by decide) rfl ?_
      refine j_goto hK 43 dX11_again_69 (by decide) ?_
      refine j_sub [1, 2, 0] rfl ?_
      exact hk _ _ hf)
def f_X11_again (p1 : Int32) (S : St) : Option (Int32 × St) := lt (sI S 122 0 (0 : Int32)) (fun S4 => bd (f_X11_in p1.toInt64 (0 : Int64) (2 : Int64) S4) (fun r5 S6 => (if r5 = 0 then some ((0 : Int32), S6) else if inb p1 3 then (if (gI S6 155 p1.toNatClampNeg) = 0 then some ((0 : Int32), S6) else if inb p1 3 then (if (gI S6 156 p1.toNatClampNeg) = (gI S6 122 4) then lp (f_X11_again_43b p1 (fun v10 S11 => lt (sI S11 122 28 (0 : Int32)) (fun S12 => some ((1 : Int32), S12)))) FU (0 : Int32) S6 else some ((0 : Int32), S6)) else none) else none)))
theorem c_X11_again {p1 : Int32} {S : St} {r : Int32} {S' : St} (hf : f_X11_again p1 S = some (r, S')) : zM yX11_again cX11_again 3 2 (some .boolean) [.ref 122, .int p1] S (some (.int r)) S' := by
  refine zM_of (zpl (by decide)) (Nat.le_of_ble_eq_true rfl) rfl (fun K hK hA => ?_)
  unfold f_X11_again at hf
  refine j_aload_n hK dX11_again_0 0 rfl rfl ?_
  refine j_iconst hK (0 : Int32) dX11_again_1 ic_0 ?_
  refine j_putI hK fl_X11_3 dX11_again_2 zo_122 zf_11_0 ?_
  refine lt_S hf (fun S4 hf => ?_)
  refine j_iload_n hK dX11_again_5 1 rfl rfl ?_
  refine j_i2l hK dX11_again_6 ?_
  refine j_lconst hK (0 : Int64) dX11_again_7 lc_0 ?_
  refine j_ldc2 hK (v := (2 : Int64)) cl_X11_300 dX11_again_8 ?_
  obtain ⟨r5, S6, h7, hf⟩ := bd_J hf
  refine k_callSi hK (c_X11_in h7) dX11_again_11 ml_X11_131 ms_X11_in in_X11 mc_X11_in hy_X11_in ⟨by decide, by decide⟩ rfl (Nat.le_of_ble_eq_true rfl) ?_
  refine j_pc (pc' := 14) rfl ?_
  refine j_if_eq hK 39 dX11_again_14 (by decide) (fun hc => ?_) (fun hc => ?_)
  · replace hf := if_1 hc hf
    refine j_iconst hK (0 : Int32) dX11_again_39 ic_0 ?_
    exact j_zret hK dX11_again_40 rfl rfl (rt_I hA hf)
  · replace hf := if_2 hc hf
    refine j_aload_n hK dX11_again_17 0 rfl rfl ?_
    refine j_getR hK fl_X11_119 dX11_again_18 zo_122 zf_11_51 zr_122_51 ?_
    refine j_iload_n hK dX11_again_21 1 rfl rfl ?_
    obtain ⟨hi8, hf⟩ := gd hf
    refine k_zald hK dX11_again_22 zb_155 hi8 rfl ?_
    refine j_if_eq hK 39 dX11_again_23 (by decide) (fun hc => ?_) (fun hc => ?_)
    · replace hf := if_1 hc hf
      refine j_iconst hK (0 : Int32) dX11_again_39 ic_0 ?_
      exact j_zret hK dX11_again_40 rfl rfl (rt_I hA hf)
    · replace hf := if_2 hc hf
      refine j_aload_n hK dX11_again_26 0 rfl rfl ?_
      refine j_getR hK fl_X11_122 dX11_again_27 zo_122 zf_11_52 zr_122_52 ?_
      refine j_iload_n hK dX11_again_30 1 rfl rfl ?_
      obtain ⟨hi9, hf⟩ := gd hf
      refine k_iald hK dX11_again_31 zb_156 hi9 rfl ?_
      refine j_aload_n hK dX11_again_32 0 rfl rfl ?_
      refine j_getI hK fl_X11_209 dX11_again_33 zo_122 zf_11_4 ?_
      refine j_icmp_eq hK 41 dX11_again_36 (by decide) (fun hc => ?_) (fun hc => ?_)
      · replace hf := if_1 hc hf
        refine j_iconst hK (0 : Int32) dX11_again_41 ic_0 ?_
        refine j_istore_n hK (L' := [(2, .int (0 : Int32)), (0, .ref 122), (1, .int p1)]) dX11_again_42 rfl (by decide) rfl ?_
        refine j_sub [1, 2, 0] rfl ?_
        refine t_X11_again_43 hK hA  (fun v10 S11 hf => ?_) _ _ _ hf
        refine j_aload_n hK dX11_again_72 0 rfl rfl ?_
        refine j_iconst hK (0 : Int32) dX11_again_73 ic_0 ?_
        refine j_putI hK fl_X11_206 dX11_again_74 zo_122 zf_11_28 ?_
        refine lt_S hf (fun S12 hf => ?_)
        refine j_iconst hK (1 : Int32) dX11_again_77 ic_1 ?_
        exact j_zret hK dX11_again_78 rfl rfl (rt_I hA hf)
      · replace hf := if_2 hc hf
        refine j_iconst hK (0 : Int32) dX11_again_39 ic_0 ?_
        exact j_zret hK dX11_again_40 rfl rfl (rt_I hA hf)
def f_X11_count (p1 : Int32) (S : St) : Option (Int32 × St) := lt (sI S 122 0 (0 : Int32)) (fun S1 => (if p1 = (0 : Int32) then some ((gI S1 122 3), S1) else (if p1 = (1 : Int32) then bd (f_J6_bitCount_0f7a4 (gI S1 126 36) S1) (fun r4 S5 => some (r4, S5)) else (if p1 = (2 : Int32) then some ((gI S1 126 37), S1) else (if p1 = (3 : Int32) then some ((gI S1 126 38), S1) else (if p1 = (4 : Int32) then bd (f_X11_sumOf 126 (24 : Int32) S1) (fun r10 S11 => some (r10, S11)) else (if p1 = (5 : Int32) then bd (f_X11_sumOf 126 (0 : Int32) S1) (fun r14 S15 => some (r14, S15)) else (if p1 = (6 : Int32) then some ((gI S1 122 39), S1) else (if p1 = (7 : Int32) then some ((gI S1 122 42), S1) else (if p1 = (8 : Int32) then some ((gI S1 122 28), S1) else (if p1 = (9 : Int32) then some ((gI S1 122 1), S1) else (if p1 = (10 : Int32) then some ((gI S1 122 10), S1) else some ((-100 : Int32), S1)))))))))))))
theorem c_X11_count {p1 : Int32} {S : St} {r : Int32} {S' : St} (hf : f_X11_count p1 S = some (r, S')) : zM yX11_count cX11_count 2 2 (some .int) [.ref 122, .int p1] S (some (.int r)) S' := by
  refine zM_of (zpl (by decide)) (Nat.le_of_ble_eq_true rfl) rfl (fun K hK hA => ?_)
  unfold f_X11_count at hf
  refine j_aload_n hK dX11_count_0 0 rfl rfl ?_
  refine j_iconst hK (0 : Int32) dX11_count_1 ic_0 ?_
  refine j_putI hK fl_X11_3 dX11_count_2 zo_122 zf_11_0 ?_
  refine lt_S hf (fun S1 hf => ?_)
  refine j_iload_n hK dX11_count_5 1 rfl rfl ?_
  by_cases hs2 : p1 = (0 : Int32)
  · replace hf := if_1 hs2 hf
    refine j_tabC hK (0 : Int32) 64 dX11_count_6 hs2 (by decide) rfl (by decide) ?_
    refine j_aload_n hK dX11_count_64 0 rfl rfl ?_
    refine j_getI hK fl_X11_128 dX11_count_65 zo_122 zf_11_3 ?_
    exact j_iret hK dX11_count_68 rfl (rt_I hA hf)
  · replace hf := if_2 hs2 hf
    by_cases hs3 : p1 = (1 : Int32)
    · replace hf := if_1 hs3 hf
      refine j_tabC hK (1 : Int32) 69 dX11_count_6 hs3 (by decide) rfl (by decide) ?_
      refine j_aload_n hK dX11_count_69 0 rfl rfl ?_
      refine j_getR hK fl_X11_31 dX11_count_70 zo_122 zf_11_7 zr_122_7 ?_
      refine j_bipush hK (36 : Int32) dX11_count_73 bi_36 ?_
      refine k_iald hK dX11_count_75 zb_126 (by decide) tn_36 ?_
      obtain ⟨r4, S5, h6, hf⟩ := bd_J hf
      refine k_callSi hK (c_J6_bitCount_0f7a4 h6) dX11_count_76 ml_X11_355 ms_J6_bitCount_0f7a4 in_J6 mc_J6_bitCount_0f7a4 hy_J6_bitCount_0f7a4 ⟨by decide, by decide⟩ rfl (Nat.le_of_ble_eq_true rfl) ?_
      exact j_iret hK dX11_count_79 rfl (rt_I hA hf)
    · replace hf := if_2 hs3 hf
      by_cases hs7 : p1 = (2 : Int32)
      · replace hf := if_1 hs7 hf
        refine j_tabC hK (2 : Int32) 80 dX11_count_6 hs7 (by decide) rfl (by decide) ?_
        refine j_aload_n hK dX11_count_80 0 rfl rfl ?_
        refine j_getR hK fl_X11_31 dX11_count_81 zo_122 zf_11_7 zr_122_7 ?_
        refine j_bipush hK (37 : Int32) dX11_count_84 bi_37 ?_
        refine k_iald hK dX11_count_86 zb_126 (by decide) tn_37 ?_
        exact j_iret hK dX11_count_87 rfl (rt_I hA hf)
      · replace hf := if_2 hs7 hf
        by_cases hs8 : p1 = (3 : Int32)
        · replace hf := if_1 hs8 hf
          refine j_tabC hK (3 : Int32) 88 dX11_count_6 hs8 (by decide) rfl (by decide) ?_
          refine j_aload_n hK dX11_count_88 0 rfl rfl ?_
          refine j_getR hK fl_X11_31 dX11_count_89 zo_122 zf_11_7 zr_122_7 ?_
          refine j_bipush hK (38 : Int32) dX11_count_92 bi_38 ?_
          refine k_iald hK dX11_count_94 zb_126 (by decide) tn_38 ?_
          exact j_iret hK dX11_count_95 rfl (rt_I hA hf)
        · replace hf := if_2 hs8 hf
          by_cases hs9 : p1 = (4 : Int32)
          · replace hf := if_1 hs9 hf
            refine j_tabC hK (4 : Int32) 96 dX11_count_6 hs9 (by decide) rfl (by decide) ?_
            refine j_aload_n hK dX11_count_96 0 rfl rfl ?_
            refine j_aload_n hK dX11_count_97 0 rfl rfl ?_
            refine j_getR hK fl_X11_31 dX11_count_98 zo_122 zf_11_7 zr_122_7 ?_
            refine j_bipush hK (24 : Int32) dX11_count_101 bi_24 ?_
            obtain ⟨r10, S11, h12, hf⟩ := bd_J hf
            refine k_callVi hK (c_X11_sumOf zb_126 h12) dX11_count_103 zclX11 zo_122 ml_X11_316 mi_X11_sumOf mx_X11_sumOf in_X11 mc_X11_sumOf hy_X11_sumOf ⟨by decide, by decide⟩ rfl (Nat.le_of_ble_eq_true rfl) ?_
            exact j_iret hK dX11_count_106 rfl (rt_I hA hf)
          · replace hf := if_2 hs9 hf
            by_cases hs13 : p1 = (5 : Int32)
            · replace hf := if_1 hs13 hf
              refine j_tabC hK (5 : Int32) 107 dX11_count_6 hs13 (by decide) rfl (by decide) ?_
              refine j_aload_n hK dX11_count_107 0 rfl rfl ?_
              refine j_aload_n hK dX11_count_108 0 rfl rfl ?_
              refine j_getR hK fl_X11_31 dX11_count_109 zo_122 zf_11_7 zr_122_7 ?_
              refine j_iconst hK (0 : Int32) dX11_count_112 ic_0 ?_
              obtain ⟨r14, S15, h16, hf⟩ := bd_J hf
              refine k_callVi hK (c_X11_sumOf zb_126 h16) dX11_count_113 zclX11 zo_122 ml_X11_316 mi_X11_sumOf mx_X11_sumOf in_X11 mc_X11_sumOf hy_X11_sumOf ⟨by decide, by decide⟩ rfl (Nat.le_of_ble_eq_true rfl) ?_
              exact j_iret hK dX11_count_116 rfl (rt_I hA hf)
            · replace hf := if_2 hs13 hf
              by_cases hs17 : p1 = (6 : Int32)
              · replace hf := if_1 hs17 hf
                refine j_tabC hK (6 : Int32) 117 dX11_count_6 hs17 (by decide) rfl (by decide) ?_
                refine j_aload_n hK dX11_count_117 0 rfl rfl ?_
                refine j_getI hK fl_X11_408 dX11_count_118 zo_122 zf_11_39 ?_
                exact j_iret hK dX11_count_121 rfl (rt_I hA hf)
              · replace hf := if_2 hs17 hf
                by_cases hs18 : p1 = (7 : Int32)
                · replace hf := if_1 hs18 hf
                  refine j_tabC hK (7 : Int32) 122 dX11_count_6 hs18 (by decide) rfl (by decide) ?_
                  refine j_aload_n hK dX11_count_122 0 rfl rfl ?_
                  refine j_getI hK fl_X11_418 dX11_count_123 zo_122 zf_11_42 ?_
                  exact j_iret hK dX11_count_126 rfl (rt_I hA hf)
                · replace hf := if_2 hs18 hf
                  by_cases hs19 : p1 = (8 : Int32)
                  · replace hf := if_1 hs19 hf
                    refine j_tabC hK (8 : Int32) 127 dX11_count_6 hs19 (by decide) rfl (by decide) ?_
                    refine j_aload_n hK dX11_count_127 0 rfl rfl ?_
                    refine j_getI hK fl_X11_206 dX11_count_128 zo_122 zf_11_28 ?_
                    exact j_iret hK dX11_count_131 rfl (rt_I hA hf)
                  · replace hf := if_2 hs19 hf
                    by_cases hs20 : p1 = (9 : Int32)
                    · replace hf := if_1 hs20 hf
                      refine j_tabC hK (9 : Int32) 132 dX11_count_6 hs20 (by decide) rfl (by decide) ?_
                      refine j_aload_n hK dX11_count_132 0 rfl rfl ?_
                      refine j_getI hK fl_X11_15 dX11_count_133 zo_122 zf_11_1 ?_
                      exact j_iret hK dX11_count_136 rfl (rt_I hA hf)
                    · replace hf := if_2 hs20 hf
                      by_cases hs21 : p1 = (10 : Int32)
                      · replace hf := if_1 hs21 hf
                        refine j_tabC hK (10 : Int32) 137 dX11_count_6 hs21 (by decide) rfl (by decide) ?_
                        refine j_aload_n hK dX11_count_137 0 rfl rfl ?_
                        refine j_getI hK fl_X11_137 dX11_count_138 zo_122 zf_11_10 ?_
                        exact j_iret hK dX11_count_141 rfl (rt_I hA hf)
                      · replace hf := if_2 hs21 hf
                        refine j_tabOut hK 142 dX11_count_6 (by have q := And.intro (ne_toInt 0 (by decide) hs2) (And.intro (ne_toInt 1 (by decide) hs3) (And.intro (ne_toInt 2 (by decide) hs7) (And.intro (ne_toInt 3 (by decide) hs8) (And.intro (ne_toInt 4 (by decide) hs9) (And.intro (ne_toInt 5 (by decide) hs13) (And.intro (ne_toInt 6 (by decide) hs17) (And.intro (ne_toInt 7 (by decide) hs18) (And.intro (ne_toInt 8 (by decide) hs19) (And.intro (ne_toInt 9 (by decide) hs20) (And.intro (ne_toInt 10 (by decide) hs21) trivial)))))))))); omega) (by decide) ?_
                        refine j_bipush hK (-100 : Int32) dX11_count_142 bi_m100 ?_
                        exact j_iret hK dX11_count_144 rfl (rt_I hA hf)
def f_X11_row (p1 : Int32) (S : St) : Option (Int64 × St) := lt (sI S 122 0 (0 : Int32)) (fun S1 => bd (f_X11_in p1.toInt64 (0 : Int64) ((gI S1 122 1) - (1 : Int32)).toInt64 S1) (fun r2 S3 => (if r2 = 0 then lt (sI S3 122 0 (1 : Int32)) (fun S6 => some ((0 : Int64), S6)) else if inb p1 24 then some ((gL S3 123 p1.toNatClampNeg), S3) else none)))
theorem c_X11_row {p1 : Int32} {S : St} {r : Int64} {S' : St} (hf : f_X11_row p1 S = some (r, S')) : zM yX11_row cX11_row 2 2 (some .long) [.ref 122, .int p1] S (some (.long r)) S' := by
  refine zM_of (zpl (by decide)) (Nat.le_of_ble_eq_true rfl) rfl (fun K hK hA => ?_)
  unfold f_X11_row at hf
  refine j_aload_n hK dX11_row_0 0 rfl rfl ?_
  refine j_iconst hK (0 : Int32) dX11_row_1 ic_0 ?_
  refine j_putI hK fl_X11_3 dX11_row_2 zo_122 zf_11_0 ?_
  refine lt_S hf (fun S1 hf => ?_)
  refine j_iload_n hK dX11_row_5 1 rfl rfl ?_
  refine j_i2l hK dX11_row_6 ?_
  refine j_lconst hK (0 : Int64) dX11_row_7 lc_0 ?_
  refine j_aload_n hK dX11_row_8 0 rfl rfl ?_
  refine j_getI hK fl_X11_15 dX11_row_9 zo_122 zf_11_1 ?_
  refine j_pc (pc' := 12) rfl ?_
  refine j_iconst hK (1 : Int32) dX11_row_12 ic_1 ?_
  refine j_isub hK dX11_row_13 ?_
  refine j_i2l hK dX11_row_14 ?_
  obtain ⟨r2, S3, h4, hf⟩ := bd_J hf
  refine k_callSi hK (c_X11_in h4) dX11_row_15 ml_X11_131 ms_X11_in in_X11 mc_X11_in hy_X11_in ⟨by decide, by decide⟩ rfl (Nat.le_of_ble_eq_true rfl) ?_
  refine j_if_ne hK 28 dX11_row_18 (by decide) (fun hc => ?_) (fun hc => ?_)
  · replace hf := if_2 hc hf
    refine j_aload_n hK dX11_row_28 0 rfl rfl ?_
    refine j_getR hK fl_X11_11 dX11_row_29 zo_122 zf_11_2 zr_122_2 ?_
    refine j_iload_n hK dX11_row_32 1 rfl rfl ?_
    obtain ⟨hi5, hf⟩ := gd hf
    refine k_lald hK dX11_row_33 zb_123 hi5 rfl ?_
    exact j_lret hK dX11_row_34 rfl (rt_L hA hf)
  · replace hf := if_1 hc hf
    refine j_aload_n hK dX11_row_21 0 rfl rfl ?_
    refine j_iconst hK (1 : Int32) dX11_row_22 ic_1 ?_
    refine j_putI hK fl_X11_3 dX11_row_23 zo_122 zf_11_0 ?_
    refine lt_S hf (fun S6 hf => ?_)
    refine j_lconst hK (0 : Int64) dX11_row_26 lc_0 ?_
    exact j_lret hK dX11_row_27 rfl (rt_L hA hf)
