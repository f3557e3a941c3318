def f_X11_halves_198 (x2 : Int32) (x3 : Int32) (x4 : Int32) (x5 : Int32) (k e : Int32 × Int32 × Int32 → St → Option (Int32 × St)) (S : St) : Option (Int32 × St) := k (x2, x3, (x5 + (1 : Int32))) S
theorem t_X11_halves_198 {K : CT} (hK : KO K cX11_halves RX11 8 4 (some .int)) {r : Int32} {S' : St} (hA : zans K = (some (.int r), S')) {x2 : Int32} {x3 : Int32} {x4 : Int32} {x5 : Int32} {k e : Int32 × Int32 × Int32 → St → Option (Int32 × St)} (hk : ∀ (v : Int32 × Int32 × Int32) (S : St), k v S = some (r, S') → J K 88 [(0, .ref 122), (2, .int v.1), (3, .int v.2.1), (4, .int x4), (5, .int v.2.2)] [] S) (he : ∀ (v : Int32 × Int32 × Int32) (S : St), e v S = some (r, S') → J K 204 [(0, .ref 122), (2, .int v.1), (3, .int v.2.1), (4, .int x4)] [] S) {S : St} (hf : f_X11_halves_198 x2 x3 x4 x5 k e S = some (r, S')) : J K 198 [(0, .ref 122), (2, .int x2), (3, .int x3), (4, .int x4), (5, .int x5)] [] S := by
  unfold f_X11_halves_198 at hf
  refine j_iinc hK (L' := [(5, .int (x5 + (1 : Int32))), (0, .ref 122), (2, .int x2), (3, .int x3), (4, .int x4)]) dX11_halves_198 4 rfl (congrArg (fun y => x5 + y) ic_1) (by decide) rfl ?_
  refine j_goto hK 88 dX11_halves_201 (by decide) ?_
  refine j_sub [1, 2, 3, 4, 0] rfl ?_
  exact hk _ _ hf
def f_X11_halves_196 (x3 : Int32) (x4 : Int32) (x5 : Int32) (s0 : Int32) (s1 : Int32) (k e : Int32 × Int32 × Int32 → St → Option (Int32 × St)) (S : St) : Option (Int32 × St) := lt (s0 ||| s1) (fun y1 => f_X11_halves_198 y1 x3 x4 x5 k e S)
theorem t_X11_halves_196 {K : CT} (hK : KO K cX11_halves RX11 8 4 (some .int)) {r : Int32} {S' : St} (hA : zans K = (some (.int r), S')) {x3 : Int32} {x4 : Int32} {x5 : Int32} {s0 : Int32} {s1 : Int32} {k e : Int32 × Int32 × Int32 → St → Option (Int32 × St)} (hk : ∀ (v : Int32 × Int32 × Int32) (S : St), k v S = some (r, S') → J K 88 [(0, .ref 122), (2, .int v.1), (3, .int v.2.1), (4, .int x4), (5, .int v.2.2)] [] S) (he : ∀ (v : Int32 × Int32 × Int32) (S : St), e v S = some (r, S') → J K 204 [(0, .ref 122), (2, .int v.1), (3, .int v.2.1), (4, .int x4)] [] S) {S : St} (hf : f_X11_halves_196 x3 x4 x5 s0 s1 k e S = some (r, S')) : J K 196 [(0, .ref 122), (3, .int x3), (4, .int x4), (5, .int x5)] [.int s1, .int s0] S := by
  unfold f_X11_halves_196 at hf
  refine j_ior hK dX11_halves_196 ?_
  refine lt_I hf (fun y1 hf => ?_)
  refine j_istore_n hK (L' := [(2, .int y1), (0, .ref 122), (3, .int x3), (4, .int x4), (5, .int x5)]) dX11_halves_197 rfl (by decide) rfl ?_
  refine j_sub [1, 0, 2, 3, 4] rfl ?_
  exact t_X11_halves_198 hK hA hk he hf
def f_X11_halves_180 (x3 : Int32) (x4 : Int32) (x5 : Int32) (x6 : Int32) (x7 : Int32) (s0 : Int32) (s1 : Int32) (k e : Int32 × Int32 × Int32 → St → Option (Int32 × St)) (S : St) : Option (Int32 × St) := lt (s0 ||| s1) (fun y2 => (if (x3 &&& x7) = 0 then f_X11_halves_196 x3 x4 x5 y2 (0 : Int32) k e S else f_X11_halves_196 x3 x4 x5 y2 x6 k e S))
theorem t_X11_halves_180 {K : CT} (hK : KO K cX11_halves RX11 8 4 (some .int)) {r : Int32} {S' : St} (hA : zans K = (some (.int r), S')) {x3 : Int32} {x4 : Int32} {x5 : Int32} {x6 : Int32} {x7 : Int32} {s0 : Int32} {s1 : Int32} {k e : Int32 × Int32 × Int32 → St → Option (Int32 × St)} (hk : ∀ (v : Int32 × Int32 × Int32) (S : St), k v S = some (r, S') → J K 88 [(0, .ref 122), (2, .int v.1), (3, .int v.2.1), (4, .int x4), (5, .int v.2.2)] [] S) (he : ∀ (v : Int32 × Int32 × Int32) (S : St), e v S = some (r, S') → J K 204 [(0, .ref 122), (2, .int v.1), (3, .int v.2.1), (4, .int x4)] [] S) {S : St} (hf : f_X11_halves_180 x3 x4 x5 x6 x7 s0 s1 k e S = some (r, S')) : J K 180 [(0, .ref 122), (3, .int x3), (4, .int x4), (5, .int x5), (6, .int x6), (7, .int x7)] [.int s1, .int s0] S := by
  unfold f_X11_halves_180 at hf
  refine j_ior hK dX11_halves_180 ?_
  refine lt_I hf (fun y2 hf => ?_)
  refine j_istore_n hK (L' := [(2, .int y2), (0, .ref 122), (3, .int x3), (4, .int x4), (5, .int x5), (6, .int x6), (7, .int x7)]) dX11_halves_181 rfl (by decide) rfl ?_
  refine j_iload_n hK dX11_halves_182 0 rfl rfl ?_
  refine j_iload_n hK dX11_halves_183 2 rfl rfl ?_
  refine j_iload hK dX11_halves_184 6 rfl ?_
  refine j_iand hK dX11_halves_186 ?_
  refine j_if_eq hK 195 dX11_halves_187 (by decide) (fun hc => ?_) (fun hc => ?_)
  · replace hf := if_1 hc hf
    refine j_iconst hK (0 : Int32) dX11_halves_195 ic_0 ?_
    refine j_sub [1, 2, 3, 4] rfl ?_
    exact t_X11_halves_196 hK hA hk he hf
  · replace hf := if_2 hc hf
    refine j_iload hK dX11_halves_190 5 rfl ?_
    refine j_goto hK 196 dX11_halves_192 (by decide) ?_
    refine j_sub [1, 2, 3, 4] rfl ?_
    exact t_X11_halves_196 hK hA hk he hf
def f_X11_halves_164 (x2 : Int32) (x4 : Int32) (x5 : Int32) (x6 : Int32) (x7 : Int32) (s0 : Int32) (s1 : Int32) (k e : Int32 × Int32 × Int32 → St → Option (Int32 × St)) (S : St) : Option (Int32 × St) := lt (s0 ||| s1) (fun y3 => (if (y3 &&& x6) = 0 then f_X11_halves_180 y3 x4 x5 x6 x7 x2 (0 : Int32) k e S else f_X11_halves_180 y3 x4 x5 x6 x7 x2 x7 k e S))
theorem t_X11_halves_164 {K : CT} (hK : KO K cX11_halves RX11 8 4 (some .int)) {r : Int32} {S' : St} (hA : zans K = (some (.int r), S')) {x2 : Int32} {x4 : Int32} {x5 : Int32} {x6 : Int32} {x7 : Int32} {s0 : Int32} {s1 : Int32} {k e : Int32 × Int32 × Int32 → St → Option (Int32 × St)} (hk : ∀ (v : Int32 × Int32 × Int32) (S : St), k v S = some (r, S') → J K 88 [(0, .ref 122), (2, .int v.1), (3, .int v.2.1), (4, .int x4), (5, .int v.2.2)] [] S) (he : ∀ (v : Int32 × Int32 × Int32) (S : St), e v S = some (r, S') → J K 204 [(0, .ref 122), (2, .int v.1), (3, .int v.2.1), (4, .int x4)] [] S) {S : St} (hf : f_X11_halves_164 x2 x4 x5 x6 x7 s0 s1 k e S = some (r, S')) : J K 164 [(0, .ref 122), (2, .int x2), (4, .int x4), (5, .int x5), (6, .int x6), (7, .int x7)] [.int s1, .int s0] S := by
  unfold f_X11_halves_164 at hf
  refine j_ior hK dX11_halves_164 ?_
  refine lt_I hf (fun y3 hf => ?_)
  refine j_istore_n hK (L' := [(3, .int y3), (0, .ref 122), (2, .int x2), (4, .int x4), (5, .int x5), (6, .int x6), (7, .int x7)]) dX11_halves_165 rfl (by decide) rfl ?_
  refine j_iload_n hK dX11_halves_166 2 rfl rfl ?_
  refine j_iload_n hK dX11_halves_167 0 rfl rfl ?_
  refine j_iload hK dX11_halves_168 5 rfl ?_
  refine j_iand hK dX11_halves_170 ?_
  refine j_if_eq hK 179 dX11_halves_171 (by decide) (fun hc => ?_) (fun hc => ?_)
  · replace hf := if_1 hc hf
    refine j_iconst hK (0 : Int32) dX11_halves_179 ic_0 ?_
    refine j_sub [1, 0, 3, 4, 5, 6] rfl ?_
    exact t_X11_halves_180 hK hA hk he hf
  · replace hf := if_2 hc hf
    refine j_iload hK dX11_halves_174 6 rfl ?_
    refine j_goto hK 180 dX11_halves_176 (by decide) ?_
    refine j_sub [1, 0, 3, 4, 5, 6] rfl ?_
    exact t_X11_halves_180 hK hA hk he hf
def f_X11_halves_148 (x2 : Int32) (x4 : Int32) (x5 : Int32) (x6 : Int32) (x7 : Int32) (s0 : Int32) (s1 : Int32) (k e : Int32 × Int32 × Int32 → St → Option (Int32 × St)) (S : St) : Option (Int32 × St) := lt (s0 ||| s1) (fun y4 => (if (x2 &&& x7) = 0 then f_X11_halves_164 x2 x4 x5 x6 x7 y4 (0 : Int32) k e S else f_X11_halves_164 x2 x4 x5 x6 x7 y4 x6 k e S))
theorem t_X11_halves_148 {K : CT} (hK : KO K cX11_halves RX11 8 4 (some .int)) {r : Int32} {S' : St} (hA : zans K = (some (.int r), S')) {x2 : Int32} {x4 : Int32} {x5 : Int32} {x6 : Int32} {x7 : Int32} {s0 : Int32} {s1 : Int32} {k e : Int32 × Int32 × Int32 → St → Option (Int32 × St)} (hk : ∀ (v : Int32 × Int32 × Int32) (S : St), k v S = some (r, S') → J K 88 [(0, .ref 122), (2, .int v.1), (3, .int v.2.1), (4, .int x4), (5, .int v.2.2)] [] S) (he : ∀ (v : Int32 × Int32 × Int32) (S : St), e v S = some (r, S') → J K 204 [(0, .ref 122), (2, .int v.1), (3, .int v.2.1), (4, .int x4)] [] S) {S : St} (hf : f_X11_halves_148 x2 x4 x5 x6 x7 s0 s1 k e S = some (r, S')) : J K 148 [(0, .ref 122), (2, .int x2), (4, .int x4), (5, .int x5), (6, .int x6), (7, .int x7)] [.int s1, .int s0] S := by
  unfold f_X11_halves_148 at hf
  refine j_ior hK dX11_halves_148 ?_
  refine lt_I hf (fun y4 hf => ?_)
  refine j_istore_n hK (L' := [(3, .int y4), (0, .ref 122), (2, .int x2), (4, .int x4), (5, .int x5), (6, .int x6), (7, .int x7)]) dX11_halves_149 rfl (by decide) rfl ?_
  refine j_iload_n hK dX11_halves_150 0 rfl rfl ?_
  refine j_iload_n hK dX11_halves_151 2 rfl rfl ?_
  refine j_iload hK dX11_halves_152 6 rfl ?_
  refine j_iand hK dX11_halves_154 ?_
  refine j_if_eq hK 163 dX11_halves_155 (by decide) (fun hc => ?_) (fun hc => ?_)
  · replace hf := if_1 hc hf
    refine j_iconst hK (0 : Int32) dX11_halves_163 ic_0 ?_
    refine j_sub [1, 2, 3, 4, 5, 6] rfl ?_
    exact t_X11_halves_164 hK hA hk he hf
  · replace hf := if_2 hc hf
    refine j_iload hK dX11_halves_158 5 rfl ?_
    refine j_goto hK 164 dX11_halves_160 (by decide) ?_
    refine j_sub [1, 2, 3, 4, 5, 6] rfl ?_
    exact t_X11_halves_164 hK hA hk he hf
def f_X11_halves_88b (x4 : Int32) (e : Int32 × Int32 × Int32 → St → Option (Int32 × St)) (k : Int32 × Int32 × Int32 → St → Option (Int32 × St)) (v : Int32 × Int32 × Int32) (S : St) : Option (Int32 × St) := (if (gI S 122 3) ≤ v.2.2 then e (v.1, v.2.1, v.2.2) S else bd (f_X11_has (gI S 126 36) v.2.2 S) (fun r5 S6 => (if r5 = 0 then f_X11_halves_198 v.1 v.2.1 x4 v.2.2 k e S6 else if inb v.2.2 12 then lt ((1 : Int32) <<< ((gI S6 124 v.2.2.toNatClampNeg) &&& 31)) (fun y9 => if inb v.2.2 12 then lt ((1 : Int32) <<< ((gI S6 125 v.2.2.toNatClampNeg) &&& 31)) (fun y11 => (if (v.1 &&& y9) = 0 then f_X11_halves_148 v.1 x4 v.2.2 y9 y11 v.2.1 (0 : Int32) k e S6 else f_X11_halves_148 v.1 x4 v.2.2 y9 y11 v.2.1 y11 k e S6)) else none) else none)))
theorem t_X11_halves_88 {K : CT} (hK : KO K cX11_halves RX11 8 4 (some .int)) {r : Int32} {S' : St} (hA : zans K = (some (.int r), S')) {x4 : Int32} {e : Int32 × Int32 × Int32 → St → Option (Int32 × St)} (he : ∀ (v : Int32 × Int32 × Int32) (S : St), e v S = some (r, S') → J K 204 [(0, .ref 122), (2, .int v.1), (3, .int v.2.1), (4, .int x4)] [] S) : ∀ (n : Nat) (v : Int32 × Int32 × Int32) (S : St), lp (f_X11_halves_88b x4 e) n v S = some (r, S') → J K 88 [(0, .ref 122), (2, .int v.1), (3, .int v.2.1), (4, .int x4), (5, .int v.2.2)] [] S :=
  lp_J (P := fun (v : Int32 × Int32 × Int32) (S : St) => J K 88 [(0, .ref 122), (2, .int v.1), (3, .int v.2.1), (4, .int x4), (5, .int v.2.2)] [] S) (fun k hk v S hf => by
    unfold f_X11_halves_88b at hf
    refine j_iload hK dX11_halves_88 4 rfl ?_
    refine j_aload_n hK dX11_halves_90 0 rfl rfl ?_
    refine j_getI hK fl_X11_128 dX11_halves_91 zo_122 zf_11_3 ?_
    refine j_icmp_ge hK 204 dX11_halves_94 (by decide) (fun hc => ?_) (fun hc => ?_)
    · replace hf := if_1 hc hf
      refine j_sub [0, 1, 2, 3] rfl ?_
      exact he _ _ hf
    · replace hf := if_2 hc hf
      refine j_aload_n hK dX11_halves_97 0 rfl rfl ?_
      refine j_getR hK fl_X11_31 dX11_halves_98 zo_122 zf_11_7 zr_122_7 ?_
      refine j_bipush hK (36 : Int32) dX11_halves_101 bi_36 ?_
      refine k_iald hK dX11_halves_103 zb_126 (by decide) tn_36 ?_
      refine j_iload hK dX11_halves_104 4 rfl ?_
      obtain ⟨r5, S6, h7, hf⟩ := bd_J hf
      refine k_callSi hK (c_X11_has h7) dX11_halves_106 ml_X11_262 ms_X11_has in_X11 mc_X11_has hy_X11_has ⟨by decide, by decide⟩ rfl (Nat.le_of_ble_eq_true rfl) ?_
      refine j_if_eq hK 198 dX11_halves_109 (by decide) (fun hc => ?_) (fun hc => ?_)
      · replace hf := if_1 hc hf
        exact t_X11_halves_198 hK hA hk he hf
      · replace hf := if_2 hc hf
        refine j_iconst hK (1 : Int32) dX11_halves_112 ic_1 ?_
        refine j_aload_n hK dX11_halves_113 0 rfl rfl ?_
        refine j_getR hK fl_X11_24 dX11_halves_114 zo_122 zf_11_5 zr_122_5 ?_
        refine j_iload hK dX11_halves_117 4 rfl ?_
        obtain ⟨hi8, hf⟩ := gd hf
        refine k_iald hK dX11_halves_119 zb_124 hi8 rfl ?_
        refine j_ishl hK dX11_halves_120 ?_
        refine lt_I hf (fun y9 hf => ?_)
        refine j_istore hK (L' := [(6, .int y9), (0, .ref 122), (2, .int v.1), (3, .int v.2.1), (4, .int x4), (5, .int v.2.2)]) dX11_halves_121 (by decide) rfl ?_
        refine j_pc (pc' := 123) rfl ?_
        refine j_iconst hK (1 : Int32) dX11_halves_123 ic_1 ?_
        refine j_aload_n hK dX11_halves_124 1 rfl rfl ?_
        refine j_getR hK fl_X11_28 dX11_halves_125 zo_122 zf_11_6 zr_122_6 ?_
        refine j_iload hK dX11_halves_128 5 rfl ?_
        obtain ⟨hi10, hf⟩ := gd hf
        refine k_iald hK dX11_halves_130 zb_125 hi10 rfl ?_
        refine j_ishl hK dX11_halves_131 ?_
        refine lt_I hf (fun y11 hf => ?_)
        refine j_istore hK (L' := [(7, .int y11), (6, .int y9), (0, .ref 122), (2, .int v.1), (3, .int v.2.1), (4, .int x4), (5, .int v.2.2)]) dX11_halves_132 (by decide) rfl ?_
        refine j_iload_n hK dX11_halves_134 4 rfl rfl ?_
        refine j_pc (pc' := 135) rfl ?_
        refine j_iload_n hK dX11_halves_135 3 rfl rfl ?_
        refine j_iload hK dX11_halves_136 1 rfl ?_
        refine j_iand hK dX11_halves_138 ?_
        refine j_if_eq hK 147 dX11_halves_139 (by decide) (fun hc => ?_) (fun hc => ?_)
        · replace hf := if_1 hc hf
          refine j_iconst hK (0 : Int32) dX11_halves_147 ic_0 ?_
          refine j_sub [2, 3, 5, 6, 1, 0] rfl ?_
          exact t_X11_halves_148 hK hA hk he hf
        · replace hf := if_2 hc hf
          refine j_iload hK dX11_halves_142 0 rfl ?_
          refine j_goto hK 148 dX11_halves_144 (by decide) ?_
          refine j_sub [2, 3, 5, 6, 1, 0] rfl ?_
          exact t_X11_halves_148 hK hA hk he hf)
def f_X11_halves_78b (e : Int32 × Int32 × Int32 → St → Option (Int32 × St)) (k : Int32 × Int32 × Int32 → St → Option (Int32 × St)) (v : Int32 × Int32 × Int32) (S : St) : Option (Int32 × St) := (if (8 : Int32) ≤ v.2.2 then e (v.1, v.2.1, v.2.2) S else lp (f_X11_halves_88b v.2.2 (fun v12 S13 => k (v12.1, v12.2.1, (v.2.2 + (1 : Int32))) S13)) FU (v.1, v.2.1, (0 : Int32)) S)
theorem t_X11_halves_78 {K : CT} (hK : KO K cX11_halves RX11 8 4 (some .int)) {r : Int32} {S' : St} (hA : zans K = (some (.int r), S')) {e : Int32 × Int32 × Int32 → St → Option (Int32 × St)} (he : ∀ (v : Int32 × Int32 × Int32) (S : St), e v S = some (r, S') → J K 210 [(0, .ref 122), (2, .int v.1), (3, .int v.2.1)] [] S) : ∀ (n : Nat) (v : Int32 × Int32 × Int32) (S : St), lp (f_X11_halves_78b  e) n v S = some (r, S') → J K 78 [(0, .ref 122), (2, .int v.1), (3, .int v.2.1), (4, .int v.2.2)] [] S :=
  lp_J (P := fun (v : Int32 × Int32 × Int32) (S : St) => J K 78 [(0, .ref 122), (2, .int v.1), (3, .int v.2.1), (4, .int v.2.2)] [] S) (fun k hk v S hf => by
    unfold f_X11_halves_78b at hf
    refine j_iload hK dX11_halves_78 3 rfl ?_
    refine j_bipush hK (8 : Int32) dX11_halves_80 bi_8 ?_
    refine j_icmp_ge hK 210 dX11_halves_82 (by decide) (fun hc => ?_) (fun hc => ?_)
    · replace hf := if_1 hc hf
      refine j_sub [0, 1, 2] rfl ?_
      exact he _ _ hf
    · replace hf := if_2 hc hf
      refine j_iconst hK (0 : Int32) dX11_halves_85 ic_0 ?_
      refine j_istore hK (L' := [(5, .int (0 : Int32)), (0, .ref 122), (2, .int v.1), (3, .int v.2.1), (4, .int v.2.2)]) dX11_halves_86 (by decide) rfl ?_
      refine j_sub [1, 2, 3, 4, 0] rfl ?_
      refine t_X11_halves_88 hK hA  (fun v12 S13 hf => ?_) _ _ _ hf
      refine j_iinc hK (L' := [(4, .int (v.2.2 + (1 : Int32))), (0, .ref 122), (2, .int v12.1), (3, .int v12.2.1)]) dX11_halves_204 3 rfl (congrArg (fun y => v.2.2 + y) ic_1) (by decide) rfl ?_
      refine j_goto hK 78 dX11_halves_207 (by decide) ?_
      refine j_sub [1, 2, 3, 0] rfl ?_
      exact hk _ _ hf)
def f_X11_halves_67 (x1 : Int32) (x3 : Int32) (x4 : Int32) (s0 : Int32) (s1 : Int32) (k e : Int32 × Int32 → St → Option (Int32 × St)) (S : St) : Option (Int32 × St) := lt (s0 ||| s1) (fun y14 => k (y14, (x4 + (1 : Int32))) S)
theorem t_X11_halves_67 {K : CT} (hK : KO K cX11_halves RX11 8 4 (some .int)) {r : Int32} {S' : St} (hA : zans K = (some (.int r), S')) {x1 : Int32} {x3 : Int32} {x4 : Int32} {s0 : Int32} {s1 : Int32} {k e : Int32 × Int32 → St → Option (Int32 × St)} (hk : ∀ (v : Int32 × Int32) (S : St), k v S = some (r, S') → J K 28 [(0, .ref 122), (1, .int x1), (2, .int v.1), (3, .int x3), (4, .int v.2)] [] S) (he : ∀ (v : Int32 × Int32) (S : St), e v S = some (r, S') → J K 75 [(0, .ref 122), (2, .int v.1), (3, .int x3)] [] S) {S : St} (hf : f_X11_halves_67 x1 x3 x4 s0 s1 k e S = some (r, S')) : J K 67 [(0, .ref 122), (1, .int x1), (3, .int x3), (4, .int x4)] [.int s1, .int s0] S := by
  unfold f_X11_halves_67 at hf
  refine j_ior hK dX11_halves_67 ?_
  refine lt_I hf (fun y14 hf => ?_)
  refine j_istore_n hK (L' := [(2, .int y14), (0, .ref 122), (1, .int x1), (3, .int x3), (4, .int x4)]) dX11_halves_68 rfl (by decide) rfl ?_
  refine j_iinc hK (L' := [(4, .int (x4 + (1 : Int32))), (2, .int y14), (0, .ref 122), (1, .int x1), (3, .int x3)]) dX11_halves_69 4 rfl (congrArg (fun y => x4 + y) ic_1) (by decide) rfl ?_
  refine j_goto hK 28 dX11_halves_72 (by decide) ?_
  refine j_sub [2, 3, 1, 4, 0] rfl ?_
  exact hk _ _ hf
def f_X11_halves_66 (x1 : Int32) (x3 : Int32) (x4 : Int32) (s0 : Int32) (k e : Int32 × Int32 → St → Option (Int32 × St)) (S : St) : Option (Int32 × St) := f_X11_halves_67 x1 x3 x4 s0 (0 : Int32) k e S
theorem t_X11_halves_66 {K : CT} (hK : KO K cX11_halves RX11 8 4 (some .int)) {r : Int32} {S' : St} (hA : zans K = (some (.int r), S')) {x1 : Int32} {x3 : Int32} {x4 : Int32} {s0 : Int32} {k e : Int32 × Int32 → St → Option (Int32 × St)} (hk : ∀ (v : Int32 × Int32) (S : St), k v S = some (r, S') → J K 28 [(0, .ref 122), (1, .int x1), (2, .int v.1), (3, .int x3), (4, .int v.2)] [] S) (he : ∀ (v : Int32 × Int32) (S : St), e v S = some (r, S') → J K 75 [(0, .ref 122), (2, .int v.1), (3, .int x3)] [] S) {S : St} (hf : f_X11_halves_66 x1 x3 x4 s0 k e S = some (r, S')) : J K 66 [(0, .ref 122), (1, .int x1), (3, .int x3), (4, .int x4)] [.int s0] S := by
  unfold f_X11_halves_66 at hf
  refine j_iconst hK (0 : Int32) dX11_halves_66 ic_0 ?_
  exact t_X11_halves_67 hK hA hk he hf
def f_X11_halves_28b (x1 : Int32) (x3 : Int32) (e : Int32 × Int32 → St → Option (Int32 × St)) (k : Int32 × Int32 → St → Option (Int32 × St)) (v : Int32 × Int32) (S : St) : Option (Int32 × St) := (if (8 : Int32) ≤ v.2 then e (v.1, v.2) S else bd (f_X11_has x1 v.2 S) (fun r15 S16 => (if r15 = 0 then f_X11_halves_66 x1 x3 v.2 v.1 k e S16 else bd (f_X11_joinedTo v.2 S16) (fun r18 S19 => bd (f_J6_numberOfTrailingZeros_0f7a4 r18 S19) (fun r21 S22 => (if r21 = v.2 then f_X11_halves_67 x1 x3 v.2 v.1 ((1 : Int32) <<< (v.2 &&& 31)) k e S22 else f_X11_halves_66 x1 x3 v.2 v.1 k e S22))))))
theorem t_X11_halves_28 {K : CT} (hK : KO K cX11_halves RX11 8 4 (some .int)) {r : Int32} {S' : St} (hA : zans K = (some (.int r), S')) {x1 : Int32} {x3 : Int32} {e : Int32 × Int32 → St → Option (Int32 × St)} (he : ∀ (v : Int32 × Int32) (S : St), e v S = some (r, S') → J K 75 [(0, .ref 122), (2, .int v.1), (3, .int x3)] [] S) : ∀ (n : Nat) (v : Int32 × Int32) (S : St), lp (f_X11_halves_28b x1 x3 e) n v S = some (r, S') → J K 28 [(0, .ref 122), (1, .int x1), (2, .int v.1), (3, .int x3), (4, .int v.2)] [] S :=
  lp_J (P := fun (v : Int32 × Int32) (S : St) => J K 28 [(0, .ref 122), (1, .int x1), (2, .int v.1), (3, .int x3), (4, .int v.2)] [] S) (fun k hk v S hf => by
    unfold f_X11_halves_28b at hf
    refine j_iload hK dX11_halves_28 4 rfl ?_
    refine j_bipush hK (8 : Int32) dX11_halves_30 bi_8 ?_
    refine j_icmp_ge hK 75 dX11_halves_32 (by decide) (fun hc => ?_) (fun hc => ?_)
    · replace hf := if_1 hc hf
      refine j_sub [0, 2, 3] rfl ?_
      exact he _ _ hf
    · replace hf := if_2 hc hf
      refine j_iload_n hK dX11_halves_35 2 rfl rfl ?_
      refine j_iload_n hK dX11_halves_36 1 rfl rfl ?_
      refine j_iload hK dX11_halves_37 4 rfl ?_
      obtain ⟨r15, S16, h17, hf⟩ := bd_J hf
      refine k_callSi hK (c_X11_has h17) dX11_halves_39 ml_X11_262 ms_X11_has in_X11 mc_X11_has hy_X11_has ⟨by decide, by decide⟩ rfl (Nat.le_of_ble_eq_true rfl) ?_
      refine j_if_eq hK 66 dX11_halves_42 (by decide) (fun hc => ?_) (fun hc => ?_)
      · replace hf := if_1 hc hf
        refine j_sub [0, 1, 3, 4] rfl ?_
        exact t_X11_halves_66 hK hA hk he hf
      · replace hf := if_2 hc hf
        refine j_aload_n hK dX11_halves_45 0 rfl rfl ?_
        refine j_iload hK dX11_halves_46 4 rfl ?_
        obtain ⟨r18, S19, h20, hf⟩ := bd_J hf
        refine k_callVi hK (c_X11_joinedTo h20) dX11_halves_48 zclX11 zo_122 ml_X11_308 mi_X11_joinedTo mx_X11_joinedTo in_X11 mc_X11_joinedTo hy_X11_joinedTo ⟨by decide, by decide⟩ rfl (Nat.le_of_ble_eq_true rfl) ?_
        obtain ⟨r21, S22, h23, hf⟩ := bd_J hf
        refine k_callSi hK (c_J6_numberOfTrailingZeros_0f7a4 h23) dX11_halves_51 ml_X11_395 ms_J6_numberOfTrailingZeros_0f7a4 in_J6 mc_J6_numberOfTrailingZeros_0f7a4 hy_J6_numberOfTrailingZeros_0f7a4 ⟨by decide, by decide⟩ rfl (Nat.le_of_ble_eq_true rfl) ?_
        refine j_iload hK dX11_halves_54 4 rfl ?_
        refine j_icmp_ne hK 66 dX11_halves_56 (by decide) (fun hc => ?_) (fun hc => ?_)
        · replace hf := if_2 hc hf
          refine j_sub [0, 1, 3, 4] rfl ?_
          exact t_X11_halves_66 hK hA hk he hf
        · replace hf := if_1 hc hf
          refine j_iconst hK (1 : Int32) dX11_halves_59 ic_1 ?_
          refine j_iload hK dX11_halves_60 4 rfl ?_
          refine j_ishl hK dX11_halves_62 ?_
          refine j_goto hK 67 dX11_halves_63 (by decide) ?_
          refine j_sub [0, 1, 3, 4] rfl ?_
          exact t_X11_halves_67 hK hA hk he hf)
def f_X11_halves (S : St) : Option (Int32 × St) := lt (sI S 122 0 (0 : Int32)) (fun S24 => bd (f_X11_laysFar (gI S24 126 36) S24) (fun r25 S26 => bd (f_X11_withPassages S26) (fun r28 S29 => lp (f_X11_halves_28b r28 (0 : Int32) (fun v31 S32 => lp (f_X11_halves_78b  (fun v33 S34 => lt (sI S34 122 1 (0 : Int32)) (fun S35 => (if (v33.1 &&& v33.2.1) = 0 then bd (f_X11_enters v33.1.toInt64 S35) (fun r36 S37 => some ((1 : Int32), S37)) else some ((0 : Int32), S35))))) FU (v31.1, (0 : Int32), (0 : Int32)) S32)) FU ((0 : Int32), (0 : Int32)) S29)))
theorem c_X11_halves {S : St} {r : Int32} {S' : St} (hf : f_X11_halves S = some (r, S')) : zM yX11_halves cX11_halves 8 4 (some .int) [.ref 122] S (some (.int r)) S' := by
  refine zM_of (zpl (by decide)) (Nat.le_of_ble_eq_true rfl) rfl (fun K hK hA => ?_)
  unfold f_X11_halves at hf
  refine j_aload_n hK dX11_halves_0 0 rfl rfl ?_
  refine j_iconst hK (0 : Int32) dX11_halves_1 ic_0 ?_
  refine j_putI hK fl_X11_3 dX11_halves_2 zo_122 zf_11_0 ?_
  refine lt_S hf (fun S24 hf => ?_)
  refine j_aload_n hK dX11_halves_5 0 rfl rfl ?_
  refine j_aload_n hK dX11_halves_6 0 rfl rfl ?_
  refine j_getR hK fl_X11_31 dX11_halves_7 zo_122 zf_11_7 zr_122_7 ?_
  refine j_bipush hK (36 : Int32) dX11_halves_10 bi_36 ?_
  refine k_iald hK dX11_halves_12 zb_126 (by decide) tn_36 ?_
  refine j_pc (pc' := 13) rfl ?_
  obtain ⟨r25, S26, h27, hf⟩ := bd_J hf
  refine k_callVv hK (c_X11_laysFar h27) dX11_halves_13 zclX11 zo_122 ml_X11_302 mi_X11_laysFar mx_X11_laysFar in_X11 mc_X11_laysFar hy_X11_laysFar ⟨by decide, by decide⟩ rfl (Nat.le_of_ble_eq_true rfl) ?_
  refine j_aload_n hK dX11_halves_16 0 rfl rfl ?_
  obtain ⟨r28, S29, h30, hf⟩ := bd_J hf
  refine k_callVi hK (c_X11_withPassages h30) dX11_halves_17 zclX11 zo_122 ml_X11_392 mi_X11_withPassages mx_X11_withPassages in_X11 mc_X11_withPassages hy_X11_withPassages ⟨by decide, by decide⟩ rfl (Nat.le_of_ble_eq_true rfl) ?_
  refine j_istore_n hK (L' := [(1, .int r28), (0, .ref 122)]) dX11_halves_20 rfl (by decide) rfl ?_
  refine j_iconst hK (0 : Int32) dX11_halves_21 ic_0 ?_
  refine j_istore_n hK (L' := [(2, .int (0 : Int32)), (1, .int r28), (0, .ref 122)]) dX11_halves_22 rfl (by decide) rfl ?_
  refine j_iconst hK (0 : Int32) dX11_halves_23 ic_0 ?_
  refine j_istore_n hK (L' := [(3, .int (0 : Int32)), (2, .int (0 : Int32)), (1, .int r28), (0, .ref 122)]) dX11_halves_24 rfl (by decide) rfl ?_
  refine j_pc (pc' := 25) rfl ?_
  refine j_iconst hK (0 : Int32) dX11_halves_25 ic_0 ?_
  refine j_istore hK (L' := [(4, .int (0 : Int32)), (3, .int (0 : Int32)), (2, .int (0 : Int32)), (1, .int r28), (0, .ref 122)]) dX11_halves_26 (by decide) rfl ?_
  refine j_sub [4, 3, 2, 1, 0] rfl ?_
  refine t_X11_halves_28 hK hA  (fun v31 S32 hf => ?_) _ _ _ hf
  refine j_iconst hK (0 : Int32) dX11_halves_75 ic_0 ?_
  refine j_istore hK (L' := [(4, .int (0 : Int32)), (0, .ref 122), (2, .int v31.1), (3, .int (0 : Int32))]) dX11_halves_76 (by decide) rfl ?_
  refine j_sub [1, 2, 3, 0] rfl ?_
  refine t_X11_halves_78 hK hA  (fun v33 S34 hf => ?_) _ _ _ hf
  refine j_aload_n hK dX11_halves_210 0 rfl rfl ?_
  refine j_iconst hK (0 : Int32) dX11_halves_211 ic_0 ?_
  refine j_putI hK fl_X11_15 dX11_halves_212 zo_122 zf_11_1 ?_
  refine lt_S hf (fun S35 hf => ?_)
  refine j_iload_n hK dX11_halves_215 1 rfl rfl ?_
  refine j_iload_n hK dX11_halves_216 2 rfl rfl ?_
  refine j_iand hK dX11_halves_217 ?_
  refine j_if_eq hK 223 dX11_halves_218 (by decide) (fun hc => ?_) (fun hc => ?_)
  · replace hf := if_1 hc hf
    refine j_aload_n hK dX11_halves_223 0 rfl rfl ?_
    refine j_iload_n hK dX11_halves_224 1 rfl rfl ?_
    refine j_i2l hK dX11_halves_225 ?_
    obtain ⟨r36, S37, h38, hf⟩ := bd_J hf
    refine k_callVv hK (c_X11_enters h38) dX11_halves_226 zclX11 zo_122 ml_X11_340 mi_X11_enters mx_X11_enters in_X11 mc_X11_enters hy_X11_enters ⟨by decide, by decide⟩ rfl (Nat.le_of_ble_eq_true rfl) ?_
    refine j_iconst hK (1 : Int32) dX11_halves_229 ic_1 ?_
    exact j_iret hK dX11_halves_230 rfl (rt_I hA hf)
  · replace hf := if_2 hc hf
    refine j_iconst hK (0 : Int32) dX11_halves_221 ic_0 ?_
    exact j_iret hK dX11_halves_222 rfl (rt_I hA hf)
def f_X11_isFewer_15 (S : St) : Option (Int32 × St) := some ((1 : Int32), S)
theorem t_X11_isFewer_15 {K : CT} (hK : KO K cX11_isFewer RX11 2 2 (some .boolean)) {r : Int32} {S' : St} (hA : zans K = (some (.int r), S')) {S : St} (hf : f_X11_isFewer_15  S = some (r, S')) : J K 15 [] [] S := by
  unfold f_X11_isFewer_15 at hf
  refine j_iconst hK (1 : Int32) dX11_isFewer_15 ic_1 ?_
  refine j_goto hK 20 dX11_isFewer_16 (by decide) ?_
  exact j_zret hK dX11_isFewer_20 rfl rfl (rt_I hA hf)
def f_X11_isFewer (p0 : Int32) (p1 : Int32) (S : St) : Option (Int32 × St) := (if p1 < 0 then f_X11_isFewer_15  S else bd (f_J6_bitCount_0f7a4 p0 S) (fun r1 S2 => bd (f_J6_bitCount_0f7a4 p1 S2) (fun r4 S5 => (if r4 ≤ r1 then some ((0 : Int32), S5) else f_X11_isFewer_15  S5))))
theorem c_X11_isFewer {p0 : Int32} {p1 : Int32} {S : St} {r : Int32} {S' : St} (hf : f_X11_isFewer p0 p1 S = some (r, S')) : zM yX11_isFewer cX11_isFewer 2 2 (some .boolean) [.int p0, .int p1] S (some (.int r)) S' := by
  refine zM_of (zpl (by decide)) (Nat.le_of_ble_eq_true rfl) rfl (fun K hK hA => ?_)
  unfold f_X11_isFewer at hf
  refine j_iload_n hK dX11_isFewer_0 1 rfl rfl ?_
  refine j_if_lt hK 15 dX11_isFewer_1 (by decide) (fun hc => ?_) (fun hc => ?_)
  · replace hf := if_1 hc hf
    refine j_sub [] rfl ?_
    exact t_X11_isFewer_15 hK hA  hf
  · replace hf := if_2 hc hf
    refine j_iload_n hK dX11_isFewer_4 0 rfl rfl ?_
    obtain ⟨r1, S2, h3, hf⟩ := bd_J hf
    refine k_callSi hK (c_J6_bitCount_0f7a4 h3) dX11_isFewer_5 ml_X11_355 ms_J6_bitCount_0f7a4 in_J6 mc_J6_bitCount_0f7a4 hy_J6_bitCount_0f7a4 ⟨by decide, by decide⟩ rfl (Nat.le_of_ble_eq_true rfl) ?_
    refine j_iload_n hK dX11_isFewer_8 1 rfl rfl ?_
    obtain ⟨r4, S5, h6, hf⟩ := bd_J hf
    refine k_callSi hK (c_J6_bitCount_0f7a4 h6) dX11_isFewer_9 ml_X11_355 ms_J6_bitCount_0f7a4 in_J6 mc_J6_bitCount_0f7a4 hy_J6_bitCount_0f7a4 ⟨by decide, by decide⟩ rfl (Nat.le_of_ble_eq_true rfl) ?_
    refine j_icmp_ge hK 19 dX11_isFewer_12 (by decide) (fun hc => ?_) (fun hc => ?_)
    · replace hf := if_1 hc hf
      refine j_iconst hK (0 : Int32) dX11_isFewer_19 ic_0 ?_
      exact j_zret hK dX11_isFewer_20 rfl rfl (rt_I hA hf)
    · replace hf := if_2 hc hf
      refine j_sub [] rfl ?_
      exact t_X11_isFewer_15 hK hA  hf
def f_X11_guides_102 (x2 : Int32) (s0 : Int32) (k e : Int32 × Int32 → St → Option (Int32 × St)) (S : St) : Option (Int32 × St) := k (s0, (x2 + (1 : Int32))) S
theorem t_X11_guides_102 {K : CT} (hK : KO K cX11_guides RX11 5 3 (some .int)) {r : Int32} {S' : St} (hA : zans K = (some (.int r), S')) {x2 : Int32} {s0 : Int32} {k e : Int32 × Int32 → St → Option (Int32 × St)} (hk : ∀ (v : Int32 × Int32) (S : St), k v S = some (r, S') → J K 9 [(0, .ref 122), (1, .int v.1), (2, .int v.2)] [] S) (he : ∀ (v : Int32 × Int32) (S : St), e v S = some (r, S') → J K 109 [(0, .ref 122), (1, .int v.1)] [] S) {S : St} (hf : f_X11_guides_102 x2 s0 k e S = some (r, S')) : J K 102 [(0, .ref 122), (2, .int x2)] [.int s0] S := by
  unfold f_X11_guides_102 at hf
  refine j_istore_n hK (L' := [(1, .int s0), (0, .ref 122), (2, .int x2)]) dX11_guides_102 rfl (by decide) rfl ?_
  refine j_iinc hK (L' := [(2, .int (x2 + (1 : Int32))), (1, .int s0), (0, .ref 122)]) dX11_guides_103 2 rfl (congrArg (fun y => x2 + y) ic_1) (by decide) rfl ?_
  refine j_goto hK 9 dX11_guides_106 (by decide) ?_
  refine j_sub [2, 1, 0] rfl ?_
  exact hk _ _ hf
def f_X11_guides_86 (x1 : Int32) (x2 : Int32) (x4 : Int32) (s0 : Int32) (k e : Int32 × Int32 → St → Option (Int32 × St)) (S : St) : Option (Int32 × St) := k (s0, (x4 + (1 : Int32))) S
theorem t_X11_guides_86 {K : CT} (hK : KO K cX11_guides RX11 5 3 (some .int)) {r : Int32} {S' : St} (hA : zans K = (some (.int r), S')) {x1 : Int32} {x2 : Int32} {x4 : Int32} {s0 : Int32} {k e : Int32 × Int32 → St → Option (Int32 × St)} (hk : ∀ (v : Int32 × Int32) (S : St), k v S = some (r, S') → J K 25 [(0, .ref 122), (1, .int x1), (2, .int x2), (3, .int v.1), (4, .int v.2)] [] S) (he : ∀ (v : Int32 × Int32) (S : St), e v S = some (r, S') → J K 93 [(0, .ref 122), (1, .int x1), (2, .int x2), (3, .int v.1)] [] S) {S : St} (hf : f_X11_guides_86 x1 x2 x4 s0 k e S = some (r, S')) : J K 86 [(0, .ref 122), (1, .int x1), (2, .int x2), (4, .int x4)] [.int s0] S := by
  unfold f_X11_guides_86 at hf
  refine j_istore_n hK (L' := [(3, .int s0), (0, .ref 122), (1, .int x1), (2, .int x2), (4, .int x4)]) dX11_guides_86 rfl (by decide) rfl ?_
  refine j_iinc hK (L' := [(4, .int (x4 + (1 : Int32))), (3, .int s0), (0, .ref 122), (1, .int x1), (2, .int x2)]) dX11_guides_87 4 rfl (congrArg (fun y => x4 + y) ic_1) (by decide) rfl ?_
  refine j_goto hK 25 dX11_guides_90 (by decide) ?_
  refine j_sub [2, 3, 4, 1, 0] rfl ?_
  exact hk _ _ hf
def f_X11_guides_85 (x1 : Int32) (x2 : Int32) (x4 : Int32) (k e : Int32 × Int32 → St → Option (Int32 × St)) (S : St) : Option (Int32 × St) := f_X11_guides_86 x1 x2 x4 (0 : Int32) k e S
theorem t_X11_guides_85 {K : CT} (hK : KO K cX11_guides RX11 5 3 (some .int)) {r : Int32} {S' : St} (hA : zans K = (some (.int r), S')) {x1 : Int32} {x2 : Int32} {x4 : Int32} {k e : Int32 × Int32 → St → Option (Int32 × St)} (hk : ∀ (v : Int32 × Int32) (S : St), k v S = some (r, S') → J K 25 [(0, .ref 122), (1, .int x1), (2, .int x2), (3, .int v.1), (4, .int v.2)] [] S) (he : ∀ (v : Int32 × Int32) (S : St), e v S = some (r, S') → J K 93 [(0, .ref 122), (1, .int x1), (2, .int x2), (3, .int v.1)] [] S) {S : St} (hf : f_X11_guides_85 x1 x2 x4 k e S = some (r, S')) : J K 85 [(0, .ref 122), (1, .int x1), (2, .int x2), (4, .int x4)] [] S := by
  unfold f_X11_guides_85 at hf
  refine j_iconst hK (0 : Int32) dX11_guides_85 ic_0 ?_
  exact t_X11_guides_86 hK hA hk he hf
def f_X11_guides_81 (x1 : Int32) (x2 : Int32) (x4 : Int32) (k e : Int32 × Int32 → St → Option (Int32 × St)) (S : St) : Option (Int32 × St) := f_X11_guides_86 x1 x2 x4 (1 : Int32) k e S
theorem t_X11_guides_81 {K : CT} (hK : KO K cX11_guides RX11 5 3 (some .int)) {r : Int32} {S' : St} (hA : zans K = (some (.int r), S')) {x1 : Int32} {x2 : Int32} {x4 : Int32} {k e : Int32 × Int32 → St → Option (Int32 × St)} (hk : ∀ (v : Int32 × Int32) (S : St), k v S = some (r, S') → J K 25 [(0, .ref 122), (1, .int x1), (2, .int x2), (3, .int v.1), (4, .int v.2)] [] S) (he : ∀ (v : Int32 × Int32) (S : St), e v S = some (r, S') → J K 93 [(0, .ref 122), (1, .int x1), (2, .int x2), (3, .int v.1)] [] S) {S : St} (hf : f_X11_guides_81 x1 x2 x4 k e S = some (r, S')) : J K 81 [(0, .ref 122), (1, .int x1), (2, .int x2), (4, .int x4)] [] S := by
  unfold f_X11_guides_81 at hf
  refine j_iconst hK (1 : Int32) dX11_guides_81 ic_1 ?_
  refine j_goto hK 86 dX11_guides_82 (by decide) ?_
  exact t_X11_guides_86 hK hA hk he hf
def f_X11_guides_25b (x1 : Int32) (x2 : Int32) (e : Int32 × Int32 → St → Option (Int32 × St)) (k : Int32 × Int32 → St → Option (Int32 × St)) (v : Int32 × Int32) (S : St) : Option (Int32 × St) := (if (gI S 122 3) ≤ v.2 then e (v.1, v.2) S else (if v.1 = 0 then f_X11_guides_85 x1 x2 v.2 k e S else bd (f_X11_has (gI S 126 36) v.2 S) (fun r1 S2 => (if r1 = 0 then f_X11_guides_81 x1 x2 v.2 k e S2 else if inb v.2 12 then bd (f_X11_has x2 (gI S2 124 v.2.toNatClampNeg) S2) (fun r5 S6 => (if r5 = 0 then if inb v.2 12 then bd (f_X11_has x2 (gI S6 125 v.2.toNatClampNeg) S6) (fun r9 S10 => (if r9 = 0 then f_X11_guides_85 x1 x2 v.2 k e S10 else f_X11_guides_81 x1 x2 v.2 k e S10)) else none else f_X11_guides_81 x1 x2 v.2 k e S6)) else none))))
theorem t_X11_guides_25 {K : CT} (hK : KO K cX11_guides RX11 5 3 (some .int)) {r : Int32} {S' : St} (hA : zans K = (some (.int r), S')) {x1 : Int32} {x2 : Int32} {e : Int32 × Int32 → St → Option (Int32 × St)} (he : ∀ (v : Int32 × Int32) (S : St), e v S = some (r, S') → J K 93 [(0, .ref 122), (1, .int x1), (2, .int x2), (3, .int v.1)] [] S) : ∀ (n : Nat) (v : Int32 × Int32) (S : St), lp (f_X11_guides_25b x1 x2 e) n v S = some (r, S') → J K 25 [(0, .ref 122), (1, .int x1), (2, .int x2), (3, .int v.1), (4, .int v.2)] [] S :=
  lp_J (P := fun (v : Int32 × Int32) (S : St) => J K 25 [(0, .ref 122), (1, .int x1), (2, .int x2), (3, .int v.1), (4, .int v.2)] [] S) (fun k hk v S hf => by
    unfold f_X11_guides_25b at hf
    refine j_iload hK dX11_guides_25 4 rfl ?_
    refine j_aload_n hK dX11_guides_27 0 rfl rfl ?_
    refine j_getI hK fl_X11_128 dX11_guides_28 zo_122 zf_11_3 ?_
    refine j_icmp_ge hK 93 dX11_guides_31 (by decide) (fun hc => ?_) (fun hc => ?_)
    · replace hf := if_1 hc hf
      refine j_sub [0, 1, 2, 3] rfl ?_
      exact he _ _ hf
    · replace hf := if_2 hc hf
      refine j_iload_n hK dX11_guides_34 3 rfl rfl ?_
      refine j_if_eq hK 85 dX11_guides_35 (by decide) (fun hc => ?_) (fun hc => ?_)
      · replace hf := if_1 hc hf
        refine j_sub [0, 1, 2, 4] rfl ?_
        exact t_X11_guides_85 hK hA hk he hf
      · replace hf := if_2 hc hf
        refine j_aload_n hK dX11_guides_38 0 rfl rfl ?_
        refine j_getR hK fl_X11_31 dX11_guides_39 zo_122 zf_11_7 zr_122_7 ?_
        refine j_bipush hK (36 : Int32) dX11_guides_42 bi_36 ?_
        refine k_iald hK dX11_guides_44 zb_126 (by decide) tn_36 ?_
        refine j_iload hK dX11_guides_45 4 rfl ?_
        obtain ⟨r1, S2, h3, hf⟩ := bd_J hf
        refine k_callSi hK (c_X11_has h3) dX11_guides_47 ml_X11_262 ms_X11_has in_X11 mc_X11_has hy_X11_has ⟨by decide, by decide⟩ rfl (Nat.le_of_ble_eq_true rfl) ?_
        refine j_if_eq hK 81 dX11_guides_50 (by decide) (fun hc => ?_) (fun hc => ?_)
        · replace hf := if_1 hc hf
          refine j_sub [0, 1, 2, 4] rfl ?_
          exact t_X11_guides_81 hK hA hk he hf
        · replace hf := if_2 hc hf
          refine j_iload_n hK dX11_guides_53 2 rfl rfl ?_
          refine j_aload_n hK dX11_guides_54 0 rfl rfl ?_
          refine j_getR hK fl_X11_24 dX11_guides_55 zo_122 zf_11_5 zr_122_5 ?_
          refine j_iload hK dX11_guides_58 4 rfl ?_
          obtain ⟨hi4, hf⟩ := gd hf
          refine k_iald hK dX11_guides_60 zb_124 hi4 rfl ?_
          obtain ⟨r5, S6, h7, hf⟩ := bd_J hf
          refine k_callSi hK (c_X11_has h7) dX11_guides_61 ml_X11_262 ms_X11_has in_X11 mc_X11_has hy_X11_has ⟨by decide, by decide⟩ rfl (Nat.le_of_ble_eq_true rfl) ?_
          refine j_if_ne hK 81 dX11_guides_64 (by decide) (fun hc => ?_) (fun hc => ?_)
          · replace hf := if_2 hc hf
            refine j_sub [0, 1, 2, 4] rfl ?_
            exact t_X11_guides_81 hK hA hk he hf
          · replace hf := if_1 hc hf
            refine j_iload_n hK dX11_guides_67 2 rfl rfl ?_
            refine j_aload_n hK dX11_guides_68 0 rfl rfl ?_
            refine j_getR hK fl_X11_28 dX11_guides_69 zo_122 zf_11_6 zr_122_6 ?_
            refine j_iload hK dX11_guides_72 4 rfl ?_
            obtain ⟨hi8, hf⟩ := gd hf
            refine k_iald hK dX11_guides_74 zb_125 hi8 rfl ?_
            obtain ⟨r9, S10, h11, hf⟩ := bd_J hf
            refine k_callSi hK (c_X11_has h11) dX11_guides_75 ml_X11_262 ms_X11_has in_X11 mc_X11_has hy_X11_has ⟨by decide, by decide⟩ rfl (Nat.le_of_ble_eq_true rfl) ?_
            refine j_if_eq hK 85 dX11_guides_78 (by decide) (fun hc => ?_) (fun hc => ?_)
            · replace hf := if_1 hc hf
              refine j_sub [0, 1, 2, 4] rfl ?_
              exact t_X11_guides_85 hK hA hk he hf
            · replace hf := if_2 hc hf
              refine j_sub [0, 1, 2, 4] rfl ?_
              exact t_X11_guides_81 hK hA hk he hf)
def f_X11_guides_9b (e : Int32 × Int32 → St → Option (Int32 × St)) (k : Int32 × Int32 → St → Option (Int32 × St)) (v : Int32 × Int32) (S : St) : Option (Int32 × St) := (if (256 : Int32) ≤ v.2 then e (v.1, v.2) S else bd (f_X11_isFewer v.2 v.1 S) (fun r12 S13 => lp (f_X11_guides_25b v.1 v.2 (fun v15 S16 => (if v15.1 = 0 then f_X11_guides_102 v.2 v.1 k e S16 else f_X11_guides_102 v.2 v.2 k e S16))) FU (r12, (0 : Int32)) S13))
theorem t_X11_guides_9 {K : CT} (hK : KO K cX11_guides RX11 5 3 (some .int)) {r : Int32} {S' : St} (hA : zans K = (some (.int r), S')) {e : Int32 × Int32 → St → Option (Int32 × St)} (he : ∀ (v : Int32 × Int32) (S : St), e v S = some (r, S') → J K 109 [(0, .ref 122), (1, .int v.1)] [] S) : ∀ (n : Nat) (v : Int32 × Int32) (S : St), lp (f_X11_guides_9b  e) n v S = some (r, S') → J K 9 [(0, .ref 122), (1, .int v.1), (2, .int v.2)] [] S :=
  lp_J (P := fun (v : Int32 × Int32) (S : St) => J K 9 [(0, .ref 122), (1, .int v.1), (2, .int v.2)] [] S) (fun k hk v S hf => by
    unfold f_X11_guides_9b at hf
    refine j_iload_n hK dX11_guides_9 2 rfl rfl ?_
    refine j_sipush hK (256 : Int32) dX11_guides_10 si_256 ?_
    refine j_icmp_ge hK 109 dX11_guides_13 (by decide) (fun hc => ?_) (fun hc => ?_)
    · replace hf := if_1 hc hf
      refine j_sub [0, 1] rfl ?_
      exact he _ _ hf
    · replace hf := if_2 hc hf
      refine j_iload_n hK dX11_guides_16 2 rfl rfl ?_
      refine j_iload_n hK dX11_guides_17 1 rfl rfl ?_
      obtain ⟨r12, S13, h14, hf⟩ := bd_J hf
      refine k_callSi hK (c_X11_isFewer h14) dX11_guides_18 ml_X11_403 ms_X11_isFewer in_X11 mc_X11_isFewer hy_X11_isFewer ⟨by decide, by decide⟩ rfl (Nat.le_of_ble_eq_true rfl) ?_
      refine j_istore_n hK (L' := [(3, .int r12), (0, .ref 122), (1, .int v.1), (2, .int v.2)]) dX11_guides_21 rfl (by decide) rfl ?_
      refine j_iconst hK (0 : Int32) dX11_guides_22 ic_0 ?_
      refine j_istore hK (L' := [(4, .int (0 : Int32)), (3, .int r12), (0, .ref 122), (1, .int v.1), (2, .int v.2)]) dX11_guides_23 (by decide) rfl ?_
      refine j_sub [2, 3, 4, 1, 0] rfl ?_
      refine t_X11_guides_25 hK hA  (fun v15 S16 hf => ?_) _ _ _ hf
      refine j_iload_n hK dX11_guides_93 3 rfl rfl ?_
      refine j_if_eq hK 101 dX11_guides_94 (by decide) (fun hc => ?_) (fun hc => ?_)
      · replace hf := if_1 hc hf
        refine j_iload_n hK dX11_guides_101 1 rfl rfl ?_
        refine j_sub [0, 2] rfl ?_
        exact t_X11_guides_102 hK hA hk he hf
      · replace hf := if_2 hc hf
        refine j_iload_n hK dX11_guides_97 2 rfl rfl ?_
        refine j_goto hK 102 dX11_guides_98 (by decide) ?_
        refine j_sub [0, 2] rfl ?_
        exact t_X11_guides_102 hK hA hk he hf)
def f_X11_guides (S : St) : Option (Int32 × St) := lt (sI S 122 0 (0 : Int32)) (fun S17 => lp (f_X11_guides_9b  (fun v18 S19 => lt (sI S19 122 1 (0 : Int32)) (fun S20 => bd (f_X11_enters v18.1.toInt64 S20) (fun r21 S22 => bd (f_J6_bitCount_0f7a4 v18.1 S22) (fun r24 S25 => some (r24, S25)))))) FU ((-1 : Int32), (0 : Int32)) S17)
theorem c_X11_guides {S : St} {r : Int32} {S' : St} (hf : f_X11_guides S = some (r, S')) : zM yX11_guides cX11_guides 5 3 (some .int) [.ref 122] S (some (.int r)) S' := by
  refine zM_of (zpl (by decide)) (Nat.le_of_ble_eq_true rfl) rfl (fun K hK hA => ?_)
  unfold f_X11_guides at hf
  refine j_aload_n hK dX11_guides_0 0 rfl rfl ?_
  refine j_iconst hK (0 : Int32) dX11_guides_1 ic_0 ?_
  refine j_putI hK fl_X11_3 dX11_guides_2 zo_122 zf_11_0 ?_
  refine lt_S hf (fun S17 hf => ?_)
  refine j_iconst hK (-1 : Int32) dX11_guides_5 ic_m1 ?_
  refine j_istore_n hK (L' := [(1, .int (-1 : Int32)), (0, .ref 122)]) dX11_guides_6 rfl (by decide) rfl ?_
  refine j_iconst hK (0 : Int32) dX11_guides_7 ic_0 ?_
  refine j_istore_n hK (L' := [(2, .int (0 : Int32)), (1, .int (-1 : Int32)), (0, .ref 122)]) dX11_guides_8 rfl (by decide) rfl ?_
  refine j_sub [2, 1, 0] rfl ?_
  refine t_X11_guides_9 hK hA  (fun v18 S19 hf => ?_) _ _ _ hf
  refine j_aload_n hK dX11_guides_109 0 rfl rfl ?_
  refine j_iconst hK (0 : Int32) dX11_guides_110 ic_0 ?_
  refine j_putI hK fl_X11_15 dX11_guides_111 zo_122 zf_11_1 ?_
  refine lt_S hf (fun S20 hf => ?_)
  refine j_aload_n hK dX11_guides_114 0 rfl rfl ?_
  refine j_iload_n hK dX11_guides_115 1 rfl rfl ?_
  refine j_i2l hK dX11_guides_116 ?_
  obtain ⟨r21, S22, h23, hf⟩ := bd_J hf
  refine k_callVv hK (c_X11_enters h23) dX11_guides_117 zclX11 zo_122 ml_X11_340 mi_X11_enters mx_X11_enters in_X11 mc_X11_enters hy_X11_enters ⟨by decide, by decide⟩ rfl (Nat.le_of_ble_eq_true rfl) ?_
  refine j_pc (pc' := 120) rfl ?_
  refine j_iload_n hK dX11_guides_120 1 rfl rfl ?_
  obtain ⟨r24, S25, h26, hf⟩ := bd_J hf
  refine k_callSi hK (c_J6_bitCount_0f7a4 h26) dX11_guides_121 ml_X11_355 ms_J6_bitCount_0f7a4 in_J6 mc_J6_bitCount_0f7a4 hy_J6_bitCount_0f7a4 ⟨by decide, by decide⟩ rfl (Nat.le_of_ble_eq_true rfl) ?_
  exact j_iret hK dX11_guides_124 rfl (rt_I hA hf)
def f_X11_most_137 (x1 : Int32) (x2 : Int32) (k e : Int32 × Int32 → St → Option (Int32 × St)) (S : St) : Option (Int32 × St) := k (x1, (x2 + (1 : Int32))) S
theorem t_X11_most_137 {K : CT} (hK : KO K cX11_most RX11 7 2 (some .int)) {r : Int32} {S' : St} (hA : zans K = (some (.int r), S')) {x1 : Int32} {x2 : Int32} {k e : Int32 × Int32 → St → Option (Int32 × St)} (hk : ∀ (v : Int32 × Int32) (S : St), k v S = some (r, S') → J K 9 [(0, .ref 122), (1, .int v.1), (2, .int v.2)] [] S) (he : ∀ (v : Int32 × Int32) (S : St), e v S = some (r, S') → J K 143 [(0, .ref 122), (1, .int v.1)] [] S) {S : St} (hf : f_X11_most_137 x1 x2 k e S = some (r, S')) : J K 137 [(0, .ref 122), (1, .int x1), (2, .int x2)] [] S := by
  unfold f_X11_most_137 at hf
  refine j_iinc hK (L' := [(2, .int (x2 + (1 : Int32))), (0, .ref 122), (1, .int x1)]) dX11_most_137 2 rfl (congrArg (fun y => x2 + y) ic_1) (by decide) rfl ?_
  refine j_goto hK 9 dX11_most_140 (by decide) ?_
  refine j_sub [1, 2, 0] rfl ?_
  exact hk _ _ hf
def f_X11_most_136 (x2 : Int32) (s0 : Int32) (k e : Int32 × Int32 → St → Option (Int32 × St)) (S : St) : Option (Int32 × St) := f_X11_most_137 s0 x2 k e S
theorem t_X11_most_136 {K : CT} (hK : KO K cX11_most RX11 7 2 (some .int)) {r : Int32} {S' : St} (hA : zans K = (some (.int r), S')) {x2 : Int32} {s0 : Int32} {k e : Int32 × Int32 → St → Option (Int32 × St)} (hk : ∀ (v : Int32 × Int32) (S : St), k v S = some (r, S') → J K 9 [(0, .ref 122), (1, .int v.1), (2, .int v.2)] [] S) (he : ∀ (v : Int32 × Int32) (S : St), e v S = some (r, S') → J K 143 [(0, .ref 122), (1, .int v.1)] [] S) {S : St} (hf : f_X11_most_136 x2 s0 k e S = some (r, S')) : J K 136 [(0, .ref 122), (2, .int x2)] [.int s0] S := by
  unfold f_X11_most_136 at hf
  refine j_istore_n hK (L' := [(1, .int s0), (0, .ref 122), (2, .int x2)]) dX11_most_136 rfl (by decide) rfl ?_
  refine j_sub [1, 0, 2] rfl ?_
  exact t_X11_most_137 hK hA hk he hf
def f_X11_most_113 (x1 : Int32) (x2 : Int32) (x4 : Int32) (x5 : Int32) (x6 : Int32) (s0 : Int32) (k e : Int32 × Int32 × Int32 → St → Option (Int32 × St)) (S : St) : Option (Int32 × St) := lt (x4 ||| x6) (fun y1 => k (s0, y1, (x5 + (1 : Int32))) S)
theorem t_X11_most_113 {K : CT} (hK : KO K cX11_most RX11 7 2 (some .int)) {r : Int32} {S' : St} (hA : zans K = (some (.int r), S')) {x1 : Int32} {x2 : Int32} {x4 : Int32} {x5 : Int32} {x6 : Int32} {s0 : Int32} {k e : Int32 × Int32 × Int32 → St → Option (Int32 × St)} (hk : ∀ (v : Int32 × Int32 × Int32) (S : St), k v S = some (r, S') → J K 53 [(0, .ref 122), (1, .int x1), (2, .int x2), (3, .int v.1), (4, .int v.2.1), (5, .int v.2.2)] [] S) (he : ∀ (v : Int32 × Int32 × Int32) (S : St), e v S = some (r, S') → J K 127 [(0, .ref 122), (1, .int x1), (2, .int x2), (3, .int v.1)] [] S) {S : St} (hf : f_X11_most_113 x1 x2 x4 x5 x6 s0 k e S = some (r, S')) : J K 113 [(0, .ref 122), (1, .int x1), (2, .int x2), (4, .int x4), (5, .int x5), (6, .int x6)] [.int s0] S := by
  unfold f_X11_most_113 at hf
  refine j_istore_n hK (L' := [(3, .int s0), (0, .ref 122), (1, .int x1), (2, .int x2), (4, .int x4), (5, .int x5), (6, .int x6)]) dX11_most_113 rfl (by decide) rfl ?_
  refine j_iload hK dX11_most_114 4 rfl ?_
  refine j_iload hK dX11_most_116 6 rfl ?_
  refine j_ior hK dX11_most_118 ?_
  refine lt_I hf (fun y1 hf => ?_)
  refine j_istore hK (L' := [(4, .int y1), (3, .int s0), (0, .ref 122), (1, .int x1), (2, .int x2), (5, .int x5), (6, .int x6)]) dX11_most_119 (by decide) rfl ?_
  refine j_iinc hK (L' := [(5, .int (x5 + (1 : Int32))), (4, .int y1), (3, .int s0), (0, .ref 122), (1, .int x1), (2, .int x2), (6, .int x6)]) dX11_most_121 5 rfl (congrArg (fun y => x5 + y) ic_1) (by decide) rfl ?_
  refine j_goto hK 53 dX11_most_124 (by decide) ?_
  refine j_sub [3, 4, 5, 2, 1, 0] rfl ?_
  exact hk _ _ hf
def f_X11_most_112 (x1 : Int32) (x2 : Int32) (x4 : Int32) (x5 : Int32) (x6 : Int32) (k e : Int32 × Int32 × Int32 → St → Option (Int32 × St)) (S : St) : Option (Int32 × St) := f_X11_most_113 x1 x2 x4 x5 x6 (0 : Int32) k e S
theorem t_X11_most_112 {K : CT} (hK : KO K cX11_most RX11 7 2 (some .int)) {r : Int32} {S' : St} (hA : zans K = (some (.int r), S')) {x1 : Int32} {x2 : Int32} {x4 : Int32} {x5 : Int32} {x6 : Int32} {k e : Int32 × Int32 × Int32 → St → Option (Int32 × St)} (hk : ∀ (v : Int32 × Int32 × Int32) (S : St), k v S = some (r, S') → J K 53 [(0, .ref 122), (1, .int x1), (2, .int x2), (3, .int v.1), (4, .int v.2.1), (5, .int v.2.2)] [] S) (he : ∀ (v : Int32 × Int32 × Int32) (S : St), e v S = some (r, S') → J K 127 [(0, .ref 122), (1, .int x1), (2, .int x2), (3, .int v.1)] [] S) {S : St} (hf : f_X11_most_112 x1 x2 x4 x5 x6 k e S = some (r, S')) : J K 112 [(0, .ref 122), (1, .int x1), (2, .int x2), (4, .int x4), (5, .int x5), (6, .int x6)] [] S := by
  unfold f_X11_most_112 at hf
  refine j_iconst hK (0 : Int32) dX11_most_112 ic_0 ?_
  exact t_X11_most_113 hK hA hk he hf
def f_X11_most_94 (x1 : Int32) (x2 : Int32) (x3 : Int32) (x4 : Int32) (x5 : Int32) (s0 : Int32) (k e : Int32 × Int32 × Int32 → St → Option (Int32 × St)) (S : St) : Option (Int32 × St) := (if x3 = 0 then f_X11_most_112 x1 x2 x4 x5 s0 k e S else (if (x4 &&& s0) = 0 then f_X11_most_113 x1 x2 x4 x5 s0 (1 : Int32) k e S else f_X11_most_112 x1 x2 x4 x5 s0 k e S))
theorem t_X11_most_94 {K : CT} (hK : KO K cX11_most RX11 7 2 (some .int)) {r : Int32} {S' : St} (hA : zans K = (some (.int r), S')) {x1 : Int32} {x2 : Int32} {x3 : Int32} {x4 : Int32} {x5 : Int32} {s0 : Int32} {k e : Int32 × Int32 × Int32 → St → Option (Int32 × St)} (hk : ∀ (v : Int32 × Int32 × Int32) (S : St), k v S = some (r, S') → J K 53 [(0, .ref 122), (1, .int x1), (2, .int x2), (3, .int v.1), (4, .int v.2.1), (5, .int v.2.2)] [] S) (he : ∀ (v : Int32 × Int32 × Int32) (S : St), e v S = some (r, S') → J K 127 [(0, .ref 122), (1, .int x1), (2, .int x2), (3, .int v.1)] [] S) {S : St} (hf : f_X11_most_94 x1 x2 x3 x4 x5 s0 k e S = some (r, S')) : J K 94 [(0, .ref 122), (1, .int x1), (2, .int x2), (3, .int x3), (4, .int x4), (5, .int x5)] [.int s0] S := by
  unfold f_X11_most_94 at hf
  refine j_istore hK (L' := [(6, .int s0), (0, .ref 122), (1, .int x1), (2, .int x2), (3, .int x3), (4, .int x4), (5, .int x5)]) dX11_most_94 (by decide) rfl ?_
  refine j_iload_n hK dX11_most_96 4 rfl rfl ?_
  refine j_if_eq hK 112 dX11_most_97 (by decide) (fun hc => ?_) (fun hc => ?_)
  · replace hf := if_1 hc hf
    refine j_sub [1, 2, 3, 5, 6, 0] rfl ?_
    exact t_X11_most_112 hK hA hk he hf
  · replace hf := if_2 hc hf
    refine j_iload hK dX11_most_100 5 rfl ?_
    refine j_iload hK dX11_most_102 0 rfl ?_
    refine j_iand hK dX11_most_104 ?_
    refine j_if_ne hK 112 dX11_most_105 (by decide) (fun hc => ?_) (fun hc => ?_)
    · replace hf := if_2 hc hf
      refine j_sub [1, 2, 3, 5, 6, 0] rfl ?_
      exact t_X11_most_112 hK hA hk he hf
    · replace hf := if_1 hc hf
      refine j_iconst hK (1 : Int32) dX11_most_108 ic_1 ?_
      refine j_goto hK 113 dX11_most_109 (by decide) ?_
      refine j_sub [1, 2, 3, 5, 6, 0] rfl ?_
      exact t_X11_most_113 hK hA hk he hf
def f_X11_most_53b (x1 : Int32) (x2 : Int32) (e : Int32 × Int32 × Int32 → St → Option (Int32 × St)) (k : Int32 × Int32 × Int32 → St → Option (Int32 × St)) (v : Int32 × Int32 × Int32) (S : St) : Option (Int32 × St) := (if (gI S 122 3) ≤ v.2.2 then e (v.1, v.2.1, v.2.2) S else bd (f_X11_has x2 v.2.2 S) (fun r2 S3 => (if r2 = 0 then f_X11_most_94 x1 x2 v.1 v.2.1 v.2.2 (0 : Int32) k e S3 else if inb v.2.2 12 then if inb v.2.2 12 then lt (((1 : Int32) <<< ((gI S3 124 v.2.2.toNatClampNeg) &&& 31)) ||| ((1 : Int32) <<< ((gI S3 125 v.2.2.toNatClampNeg) &&& 31))) (fun y7 => f_X11_most_94 x1 x2 v.1 v.2.1 v.2.2 y7 k e S3) else none else none)))
theorem t_X11_most_53 {K : CT} (hK : KO K cX11_most RX11 7 2 (some .int)) {r : Int32} {S' : St} (hA : zans K = (some (.int r), S')) {x1 : Int32} {x2 : Int32} {e : Int32 × Int32 × Int32 → St → Option (Int32 × St)} (he : ∀ (v : Int32 × Int32 × Int32) (S : St), e v S = some (r, S') → J K 127 [(0, .ref 122), (1, .int x1), (2, .int x2), (3, .int v.1)] [] S) : ∀ (n : Nat) (v : Int32 × Int32 × Int32) (S : St), lp (f_X11_most_53b x1 x2 e) n v S = some (r, S') → J K 53 [(0, .ref 122), (1, .int x1), (2, .int x2), (3, .int v.1), (4, .int v.2.1), (5, .int v.2.2)] [] S :=
  lp_J (P := fun (v : Int32 × Int32 × Int32) (S : St) => J K 53 [(0, .ref 122), (1, .int x1), (2, .int x2), (3, .int v.1), (4, .int v.2.1), (5, .int v.2.2)] [] S) (fun k hk v S hf => by
    unfold f_X11_most_53b at hf
    refine j_iload hK dX11_most_53 5 rfl ?_
    refine j_aload_n hK dX11_most_55 0 rfl rfl ?_
    refine j_getI hK fl_X11_128 dX11_most_56 zo_122 zf_11_3 ?_
    refine j_icmp_ge hK 127 dX11_most_59 (by decide) (fun hc => ?_) (fun hc => ?_)
    · replace hf := if_1 hc hf
      refine j_sub [0, 1, 2, 3] rfl ?_
      exact he _ _ hf
    · replace hf := if_2 hc hf
      refine j_iload_n hK dX11_most_62 2 rfl rfl ?_
      refine j_iload hK dX11_most_63 5 rfl ?_
      obtain ⟨r2, S3, h4, hf⟩ := bd_J hf
      refine k_callSi hK (c_X11_has h4) dX11_most_65 ml_X11_262 ms_X11_has in_X11 mc_X11_has hy_X11_has ⟨by decide, by decide⟩ rfl (Nat.le_of_ble_eq_true rfl) ?_
      refine j_if_eq hK 93 dX11_most_68 (by decide) (fun hc => ?_) (fun hc => ?_)
      · replace hf := if_1 hc hf
        refine j_iconst hK (0 : Int32) dX11_most_93 ic_0 ?_
        exact t_X11_most_94 hK hA hk he hf
      · replace hf := if_2 hc hf
        refine j_iconst hK (1 : Int32) dX11_most_71 ic_1 ?_
        refine j_aload_n hK dX11_most_72 0 rfl rfl ?_
        refine j_getR hK fl_X11_24 dX11_most_73 zo_122 zf_11_5 zr_122_5 ?_
        refine j_iload hK dX11_most_76 5 rfl ?_
        obtain ⟨hi5, hf⟩ := gd hf
        refine k_iald hK dX11_most_78 zb_124 hi5 rfl ?_
        refine j_ishl hK dX11_most_79 ?_
        refine j_iconst hK (1 : Int32) dX11_most_80 ic_1 ?_
        refine j_pc (pc' := 81) rfl ?_
        refine j_aload_n hK dX11_most_81 0 rfl rfl ?_
        refine j_getR hK fl_X11_28 dX11_most_82 zo_122 zf_11_6 zr_122_6 ?_
        refine j_iload hK dX11_most_85 5 rfl ?_
        obtain ⟨hi6, hf⟩ := gd hf
        refine k_iald hK dX11_most_87 zb_125 hi6 rfl ?_
        refine j_ishl hK dX11_most_88 ?_
        refine j_ior hK dX11_most_89 ?_
        refine lt_I hf (fun y7 hf => ?_)
        refine j_goto hK 94 dX11_most_90 (by decide) ?_
        exact t_X11_most_94 hK hA hk he hf)
def f_X11_most_9b (e : Int32 × Int32 → St → Option (Int32 × St)) (k : Int32 × Int32 → St → Option (Int32 × St)) (v : Int32 × Int32) (S : St) : Option (Int32 × St) := (if (gI S 126 36) < v.2 then e (v.1, v.2) S else (if (v.2 &&& ((gI S 126 36) ^^^ (-1 : Int32))) = 0 then bd (f_J6_bitCount_0f7a4 v.2 S) (fun r8 S9 => bd (f_J6_bitCount_0f7a4 v.1 S9) (fun r11 S12 => (if r8 ≤ r11 then f_X11_most_137 v.1 v.2 k e S12 else lp (f_X11_most_53b v.1 v.2 (fun v14 S15 => (if v14.1 = 0 then f_X11_most_136 v.2 v.1 k e S15 else f_X11_most_136 v.2 v.2 k e S15))) FU ((1 : Int32), (0 : Int32), (0 : Int32)) S12))) else f_X11_most_137 v.1 v.2 k e S))
theorem t_X11_most_9 {K : CT} (hK : KO K cX11_most RX11 7 2 (some .int)) {r : Int32} {S' : St} (hA : zans K = (some (.int r), S')) {e : Int32 × Int32 → St → Option (Int32 × St)} (he : ∀ (v : Int32 × Int32) (S : St), e v S = some (r, S') → J K 143 [(0, .ref 122), (1, .int v.1)] [] S) : ∀ (n : Nat) (v : Int32 × Int32) (S : St), lp (f_X11_most_9b  e) n v S = some (r, S') → J K 9 [(0, .ref 122), (1, .int v.1), (2, .int v.2)] [] S :=
  lp_J (P := fun (v : Int32 × Int32) (S : St) => J K 9 [(0, .ref 122), (1, .int v.1), (2, .int v.2)] [] S) (fun k hk v S hf => by
    unfold f_X11_most_9b at hf
    refine j_iload_n hK dX11_most_9 2 rfl rfl ?_
    refine j_aload_n hK dX11_most_10 0 rfl rfl ?_
    refine j_getR hK fl_X11_31 dX11_most_11 zo_122 zf_11_7 zr_122_7 ?_
    refine j_bipush hK (36 : Int32) dX11_most_14 bi_36 ?_
    refine k_iald hK dX11_most_16 zb_126 (by decide) tn_36 ?_
    refine j_icmp_gt hK 143 dX11_most_17 (by decide) (fun hc => ?_) (fun hc => ?_)
    · replace hf := if_1 hc hf
      refine j_sub [0, 1] rfl ?_
      exact he _ _ hf
    · replace hf := if_2 hc hf
      refine j_iload_n hK dX11_most_20 2 rfl rfl ?_
      refine j_aload_n hK dX11_most_21 0 rfl rfl ?_
      refine j_getR hK fl_X11_31 dX11_most_22 zo_122 zf_11_7 zr_122_7 ?_
      refine j_bipush hK (36 : Int32) dX11_most_25 bi_36 ?_
      refine k_iald hK dX11_most_27 zb_126 (by decide) tn_36 ?_
      refine j_iconst hK (-1 : Int32) dX11_most_28 ic_m1 ?_
      refine j_ixor hK dX11_most_29 ?_
      refine j_pc (pc' := 30) rfl ?_
      refine j_iand hK dX11_most_30 ?_
      refine j_if_ne hK 137 dX11_most_31 (by decide) (fun hc => ?_) (fun hc => ?_)
      · replace hf := if_2 hc hf
        exact t_X11_most_137 hK hA hk he hf
      · replace hf := if_1 hc hf
        refine j_iload_n hK dX11_most_34 2 rfl rfl ?_
        obtain ⟨r8, S9, h10, hf⟩ := bd_J hf
        refine k_callSi hK (c_J6_bitCount_0f7a4 h10) dX11_most_35 ml_X11_355 ms_J6_bitCount_0f7a4 in_J6 mc_J6_bitCount_0f7a4 hy_J6_bitCount_0f7a4 ⟨by decide, by decide⟩ rfl (Nat.le_of_ble_eq_true rfl) ?_
        refine j_iload_n hK dX11_most_38 1 rfl rfl ?_
        obtain ⟨r11, S12, h13, hf⟩ := bd_J hf
        refine k_callSi hK (c_J6_bitCount_0f7a4 h13) dX11_most_39 ml_X11_355 ms_J6_bitCount_0f7a4 in_J6 mc_J6_bitCount_0f7a4 hy_J6_bitCount_0f7a4 ⟨by decide, by decide⟩ rfl (Nat.le_of_ble_eq_true rfl) ?_
        refine j_icmp_le hK 137 dX11_most_42 (by decide) (fun hc => ?_) (fun hc => ?_)
        · replace hf := if_1 hc hf
          exact t_X11_most_137 hK hA hk he hf
        · replace hf := if_2 hc hf
          refine j_iconst hK (1 : Int32) dX11_most_45 ic_1 ?_
          refine j_istore_n hK (L' := [(3, .int (1 : Int32)), (0, .ref 122), (1, .int v.1), (2, .int v.2)]) dX11_most_46 rfl (by decide) rfl ?_
          refine j_iconst hK (0 : Int32) dX11_most_47 ic_0 ?_
          refine j_istore hK (L' := [(4, .int (0 : Int32)), (3, .int (1 : Int32)), (0, .ref 122), (1, .int v.1), (2, .int v.2)]) dX11_most_48 (by decide) rfl ?_
          refine j_iconst hK (0 : Int32) dX11_most_50 ic_0 ?_
          refine j_istore hK (L' := [(5, .int (0 : Int32)), (4, .int (0 : Int32)), (3, .int (1 : Int32)), (0, .ref 122), (1, .int v.1), (2, .int v.2)]) dX11_most_51 (by decide) rfl ?_
          refine j_sub [3, 4, 5, 2, 1, 0] rfl ?_
          refine t_X11_most_53 hK hA  (fun v14 S15 hf => ?_) _ _ _ hf
          refine j_iload_n hK dX11_most_127 3 rfl rfl ?_
          refine j_if_eq hK 135 dX11_most_128 (by decide) (fun hc => ?_) (fun hc => ?_)
          · replace hf := if_1 hc hf
            refine j_iload_n hK dX11_most_135 1 rfl rfl ?_
            refine j_sub [0, 2] rfl ?_
            exact t_X11_most_136 hK hA hk he hf
          · replace hf := if_2 hc hf
            refine j_iload_n hK dX11_most_131 2 rfl rfl ?_
            refine j_goto hK 136 dX11_most_132 (by decide) ?_
            refine j_sub [0, 2] rfl ?_
            exact t_X11_most_136 hK hA hk he hf)
def f_X11_most (S : St) : Option (Int32 × St) := lt (sI S 122 0 (0 : Int32)) (fun S16 => lp (f_X11_most_9b  (fun v17 S18 => lt (sI S18 122 1 (0 : Int32)) (fun S19 => bd (f_X11_enters v17.1.toInt64 S19) (fun r20 S21 => bd (f_J6_bitCount_0f7a4 v17.1 S21) (fun r23 S24 => some (r23, S24)))))) FU ((0 : Int32), (1 : Int32)) S16)
theorem c_X11_most {S : St} {r : Int32} {S' : St} (hf : f_X11_most S = some (r, S')) : zM yX11_most cX11_most 7 2 (some .int) [.ref 122] S (some (.int r)) S' := by
  refine zM_of (zpl (by decide)) (Nat.le_of_ble_eq_true rfl) rfl (fun K hK hA => ?_)
  unfold f_X11_most at hf
  refine j_aload_n hK dX11_most_0 0 rfl rfl ?_
  refine j_iconst hK (0 : Int32) dX11_most_1 ic_0 ?_
  refine j_putI hK fl_X11_3 dX11_most_2 zo_122 zf_11_0 ?_
  refine lt_S hf (fun S16 hf => ?_)
  refine j_iconst hK (0 : Int32) dX11_most_5 ic_0 ?_
  refine j_istore_n hK (L' := [(1, .int (0 : Int32)), (0, .ref 122)]) dX11_most_6 rfl (by decide) rfl ?_
  refine j_iconst hK (1 : Int32) dX11_most_7 ic_1 ?_
  refine j_istore_n hK (L' := [(2, .int (1 : Int32)), (1, .int (0 : Int32)), (0, .ref 122)]) dX11_most_8 rfl (by decide) rfl ?_
  refine j_sub [2, 1, 0] rfl ?_
  refine t_X11_most_9 hK hA  (fun v17 S18 hf => ?_) _ _ _ hf
  refine j_aload_n hK dX11_most_143 0 rfl rfl ?_
  refine j_iconst hK (0 : Int32) dX11_most_144 ic_0 ?_
  refine j_putI hK fl_X11_15 dX11_most_145 zo_122 zf_11_1 ?_
  refine lt_S hf (fun S19 hf => ?_)
  refine j_aload_n hK dX11_most_148 0 rfl rfl ?_
  refine j_iload_n hK dX11_most_149 1 rfl rfl ?_
  refine j_i2l hK dX11_most_150 ?_
  obtain ⟨r20, S21, h22, hf⟩ := bd_J hf
  refine k_callVv hK (c_X11_enters h22) dX11_most_151 zclX11 zo_122 ml_X11_340 mi_X11_enters mx_X11_enters in_X11 mc_X11_enters hy_X11_enters ⟨by decide, by decide⟩ rfl (Nat.le_of_ble_eq_true rfl) ?_
  refine j_pc (pc' := 154) rfl ?_
  refine j_iload_n hK dX11_most_154 1 rfl rfl ?_
  obtain ⟨r23, S24, h25, hf⟩ := bd_J hf
  refine k_callSi hK (c_J6_bitCount_0f7a4 h25) dX11_most_155 ml_X11_355 ms_J6_bitCount_0f7a4 in_J6 mc_J6_bitCount_0f7a4 hy_J6_bitCount_0f7a4 ⟨by decide, by decide⟩ rfl (Nat.le_of_ble_eq_true rfl) ?_
  exact j_iret hK dX11_most_158 rfl (rt_I hA hf)
def f_X11_told_39 (x1 : Int32) (x2 : Int32) (x3 : Int32) (s0 : Int32) (S : St) : Option (Int32 × St) := bd (f_X11_in x1.toInt64 (0 : Int64) (4 : Int64) S) (fun r1 S2 => (if r1 = 0 then some ((-1 : Int32), S2) else bd (f_X11_in x2.toInt64 x3.toInt64 s0.toInt64 S2) (fun r4 S5 => (if r4 = 0 then some ((-1 : Int32), S5) else (if (gI S5 122 39) = (12 : Int32) then some ((-1 : Int32), S5) else if inb (gI S5 122 39) 12 then lt (sI S5 146 (gI S5 122 39).toNatClampNeg x1) (fun S8 => if inb (gI S8 122 39) 12 then lt (sI S8 147 (gI S8 122 39).toNatClampNeg x2) (fun S10 => lt (sI S10 122 39 ((gI S10 122 39) + (1 : Int32))) (fun S11 => some ((gI S11 122 39), S11))) else none) else none)))))
theorem t_X11_told_39 {K : CT} (hK : KO K cX11_told RX11 5 2 (some .int)) {r : Int32} {S' : St} (hA : zans K = (some (.int r), S')) {x1 : Int32} {x2 : Int32} {x3 : Int32} {s0 : Int32} {S : St} (hf : f_X11_told_39 x1 x2 x3 s0 S = some (r, S')) : J K 39 [(0, .ref 122), (1, .int x1), (2, .int x2), (3, .int x3)] [.int s0] S := by
  unfold f_X11_told_39 at hf
  refine j_istore hK (L' := [(4, .int s0), (0, .ref 122), (1, .int x1), (2, .int x2), (3, .int x3)]) dX11_told_39 (by decide) rfl ?_
  refine j_iload_n hK dX11_told_41 2 rfl rfl ?_
  refine j_i2l hK dX11_told_42 ?_
  refine j_lconst hK (0 : Int64) dX11_told_43 lc_0 ?_
  refine j_ldc2 hK (v := (4 : Int64)) cl_X11_406 dX11_told_44 ?_
  obtain ⟨r1, S2, h3, hf⟩ := bd_J hf
  refine k_callSi hK (c_X11_in h3) dX11_told_47 ml_X11_131 ms_X11_in in_X11 mc_X11_in hy_X11_in ⟨by decide, by decide⟩ rfl (Nat.le_of_ble_eq_true rfl) ?_
  refine j_if_eq hK 75 dX11_told_50 (by decide) (fun hc => ?_) (fun hc => ?_)
  · replace hf := if_1 hc hf
    refine j_iconst hK (-1 : Int32) dX11_told_75 ic_m1 ?_
    exact j_iret hK dX11_told_76 rfl (rt_I hA hf)
  · replace hf := if_2 hc hf
    refine j_iload_n hK dX11_told_53 3 rfl rfl ?_
    refine j_i2l hK dX11_told_54 ?_
    refine j_iload_n hK dX11_told_55 4 rfl rfl ?_
    refine j_i2l hK dX11_told_56 ?_
    refine j_iload hK dX11_told_57 0 rfl ?_
    refine j_i2l hK dX11_told_59 ?_
    obtain ⟨r4, S5, h6, hf⟩ := bd_J hf
    refine k_callSi hK (c_X11_in h6) dX11_told_60 ml_X11_131 ms_X11_in in_X11 mc_X11_in hy_X11_in ⟨by decide, by decide⟩ rfl (Nat.le_of_ble_eq_true rfl) ?_
    refine j_pc (pc' := 63) rfl ?_
    refine j_if_eq hK 75 dX11_told_63 (by decide) (fun hc => ?_) (fun hc => ?_)
    · replace hf := if_1 hc hf
      refine j_iconst hK (-1 : Int32) dX11_told_75 ic_m1 ?_
      exact j_iret hK dX11_told_76 rfl (rt_I hA hf)
    · replace hf := if_2 hc hf
      refine j_aload_n hK dX11_told_66 1 rfl rfl ?_
      refine j_getI hK fl_X11_408 dX11_told_67 zo_122 zf_11_39 ?_
      refine j_bipush hK (12 : Int32) dX11_told_70 bi_12 ?_
      refine j_icmp_ne hK 77 dX11_told_72 (by decide) (fun hc => ?_) (fun hc => ?_)
      · replace hf := if_2 hc hf
        refine j_aload_n hK dX11_told_77 1 rfl rfl ?_
        refine j_getR hK fl_X11_92 dX11_told_78 zo_122 zf_11_40 zr_122_40 ?_
        refine j_aload_n hK dX11_told_81 1 rfl rfl ?_
        refine j_getI hK fl_X11_408 dX11_told_82 zo_122 zf_11_39 ?_
        refine j_iload_n hK dX11_told_85 2 rfl rfl ?_
        obtain ⟨hi7, hf⟩ := gd hf
        refine k_iast hK dX11_told_86 zb_146 hi7 rfl ?_
        refine lt_S hf (fun S8 hf => ?_)
        refine j_aload_n hK dX11_told_87 1 rfl rfl ?_
        refine j_pc (pc' := 88) rfl ?_
        refine j_getR hK fl_X11_95 dX11_told_88 zo_122 zf_11_41 zr_122_41 ?_
        refine j_aload_n hK dX11_told_91 1 rfl rfl ?_
        refine j_getI hK fl_X11_408 dX11_told_92 zo_122 zf_11_39 ?_
        refine j_iload_n hK dX11_told_95 3 rfl rfl ?_
        obtain ⟨hi9, hf⟩ := gd hf
        refine k_iast hK dX11_told_96 zb_147 hi9 rfl ?_
        refine lt_S hf (fun S10 hf => ?_)
        refine j_aload_n hK dX11_told_97 1 rfl rfl ?_
        refine j_dup hK dX11_told_98 rfl ?_
        refine j_getI hK fl_X11_408 dX11_told_99 zo_122 zf_11_39 ?_
        refine j_pc (pc' := 102) rfl ?_
        refine j_iconst hK (1 : Int32) dX11_told_102 ic_1 ?_
        refine j_iadd hK dX11_told_103 ?_
        refine j_putI hK fl_X11_408 dX11_told_104 zo_122 zf_11_39 ?_
        refine lt_S hf (fun S11 hf => ?_)
        refine j_aload_n hK dX11_told_107 1 rfl rfl ?_
        refine j_getI hK fl_X11_408 dX11_told_108 zo_122 zf_11_39 ?_
        exact j_iret hK dX11_told_111 rfl (rt_I hA hf)
      · replace hf := if_1 hc hf
        refine j_iconst hK (-1 : Int32) dX11_told_75 ic_m1 ?_
        exact j_iret hK dX11_told_76 rfl (rt_I hA hf)
def f_X11_told_14 (x1 : Int32) (x2 : Int32) (s0 : Int32) (S : St) : Option (Int32 × St) := bd (f_X11_flag s0 S) (fun r12 S13 => (if x1 = (1 : Int32) then f_X11_told_39 x1 x2 r12 (7 : Int32) S13 else (if x1 = (3 : Int32) then f_X11_told_39 x1 x2 r12 (1 : Int32) S13 else f_X11_told_39 x1 x2 r12 (9 : Int32) S13)))
theorem t_X11_told_14 {K : CT} (hK : KO K cX11_told RX11 5 2 (some .int)) {r : Int32} {S' : St} (hA : zans K = (some (.int r), S')) {x1 : Int32} {x2 : Int32} {s0 : Int32} {S : St} (hf : f_X11_told_14 x1 x2 s0 S = some (r, S')) : J K 14 [(0, .ref 122), (1, .int x1), (2, .int x2)] [.int s0] S := by
  unfold f_X11_told_14 at hf
  obtain ⟨r12, S13, h14, hf⟩ := bd_J hf
  refine k_callSi hK (c_X11_flag h14) dX11_told_14 ml_X11_155 ms_X11_flag in_X11 mc_X11_flag hy_X11_flag ⟨by decide, by decide⟩ rfl (Nat.le_of_ble_eq_true rfl) ?_
  refine j_istore_n hK (L' := [(3, .int r12), (0, .ref 122), (1, .int x1), (2, .int x2)]) dX11_told_17 rfl (by decide) rfl ?_
  refine j_iload_n hK dX11_told_18 2 rfl rfl ?_
  refine j_iconst hK (1 : Int32) dX11_told_19 ic_1 ?_
  refine j_icmp_ne hK 28 dX11_told_20 (by decide) (fun hc => ?_) (fun hc => ?_)
  · replace hf := if_2 hc hf
    refine j_iload_n hK dX11_told_28 2 rfl rfl ?_
    refine j_iconst hK (3 : Int32) dX11_told_29 ic_3 ?_
    refine j_icmp_ne hK 37 dX11_told_30 (by decide) (fun hc => ?_) (fun hc => ?_)
    · replace hf := if_2 hc hf
      refine j_bipush hK (9 : Int32) dX11_told_37 bi_9 ?_
      refine j_sub [1, 2, 3, 0] rfl ?_
      exact t_X11_told_39 hK hA  hf
    · replace hf := if_1 hc hf
      refine j_iconst hK (1 : Int32) dX11_told_33 ic_1 ?_
      refine j_goto hK 39 dX11_told_34 (by decide) ?_
      refine j_sub [1, 2, 3, 0] rfl ?_
      exact t_X11_told_39 hK hA  hf
  · replace hf := if_1 hc hf
    refine j_bipush hK (7 : Int32) dX11_told_23 bi_7 ?_
    refine j_goto hK 39 dX11_told_25 (by decide) ?_
    refine j_sub [1, 2, 3, 0] rfl ?_
    exact t_X11_told_39 hK hA  hf
def f_X11_told (p1 : Int32) (p2 : Int32) (S : St) : Option (Int32 × St) := lt (sI S 122 0 (0 : Int32)) (fun S15 => (if p1 = 0 then f_X11_told_14 p1 p2 (1 : Int32) S15 else f_X11_told_14 p1 p2 (0 : Int32) S15))
theorem c_X11_told {p1 : Int32} {p2 : Int32} {S : St} {r : Int32} {S' : St} (hf : f_X11_told p1 p2 S = some (r, S')) : zM yX11_told cX11_told 5 2 (some .int) [.ref 122, .int p1, .int p2] S (some (.int r)) S' := by
  refine zM_of (zpl (by decide)) (Nat.le_of_ble_eq_true rfl) rfl (fun K hK hA => ?_)
  unfold f_X11_told at hf
  refine j_aload_n hK dX11_told_0 0 rfl rfl ?_
  refine j_iconst hK (0 : Int32) dX11_told_1 ic_0 ?_
  refine j_putI hK fl_X11_3 dX11_told_2 zo_122 zf_11_0 ?_
  refine lt_S hf (fun S15 hf => ?_)
  refine j_iload_n hK dX11_told_5 1 rfl rfl ?_
  refine j_if_ne hK 13 dX11_told_6 (by decide) (fun hc => ?_) (fun hc => ?_)
  · replace hf := if_2 hc hf
    refine j_iconst hK (0 : Int32) dX11_told_13 ic_0 ?_
    exact t_X11_told_14 hK hA  hf
  · replace hf := if_1 hc hf
    refine j_iconst hK (1 : Int32) dX11_told_9 ic_1 ?_
    refine j_goto hK 14 dX11_told_10 (by decide) ?_
    exact t_X11_told_14 hK hA  hf
def f_X11_forget (S : St) : Option (Int32 × St) := lt (sI S 122 0 (0 : Int32)) (fun S1 => lt (gI S1 122 39) (fun y2 => lt (sI S1 122 39 (0 : Int32)) (fun S3 => some (y2, S3))))
theorem c_X11_forget {S : St} {r : Int32} {S' : St} (hf : f_X11_forget S = some (r, S')) : zM yX11_forget cX11_forget 2 1 (some .int) [.ref 122] S (some (.int r)) S' := by
  refine zM_of (zpl (by decide)) (Nat.le_of_ble_eq_true rfl) rfl (fun K hK hA => ?_)
  unfold f_X11_forget at hf
  refine j_aload_n hK dX11_forget_0 0 rfl rfl ?_
  refine j_iconst hK (0 : Int32) dX11_forget_1 ic_0 ?_
  refine j_putI hK fl_X11_3 dX11_forget_2 zo_122 zf_11_0 ?_
  refine lt_S hf (fun S1 hf => ?_)
  refine j_aload_n hK dX11_forget_5 0 rfl rfl ?_
  refine j_getI hK fl_X11_408 dX11_forget_6 zo_122 zf_11_39 ?_
  refine lt_I hf (fun y2 hf => ?_)
  refine j_istore_n hK (L' := [(1, .int y2), (0, .ref 122)]) dX11_forget_9 rfl (by decide) rfl ?_
  refine j_aload_n hK dX11_forget_10 1 rfl rfl ?_
  refine j_iconst hK (0 : Int32) dX11_forget_11 ic_0 ?_
  refine j_pc (pc' := 12) rfl ?_
  refine j_putI hK fl_X11_408 dX11_forget_12 zo_122 zf_11_39 ?_
  refine lt_S hf (fun S3 hf => ?_)
  refine j_iload_n hK dX11_forget_15 0 rfl rfl ?_
  exact j_iret hK dX11_forget_16 rfl (rt_I hA hf)
def f_X11_isSo (p1 : Int32) (p2 : Int32) (p3 : Int32) (S : St) : Option (Int32 × St) := (if p2 = (0 : Int32) then if inb p1 39 then (if (gI S 126 p1.toNatClampNeg) < p3 then some ((0 : Int32), S) else some ((1 : Int32), S)) else none else (if p2 = (1 : Int32) then bd (f_X11_isEnd p1 p3 S) (fun r4 S5 => if r4 = 0 ∨ r4 = 1 then some (r4, S5) else none) else (if p2 = (2 : Int32) then if inb ((12 : Int32) + p1) 39 then (if (gI S 126 ((12 : Int32) + p1).toNatClampNeg) = p3 then some ((1 : Int32), S) else some ((0 : Int32), S)) else none else (if p2 = (3 : Int32) then bd (f_X11_has (gI S 126 36) p1 S) (fun r10 S11 => bd (f_X11_flag r10 S11) (fun r13 S14 => (if r13 = p3 then some ((1 : Int32), S14) else some ((0 : Int32), S14)))) else if inb ((24 : Int32) + p1) 39 then (if p3 < (gI S 126 ((24 : Int32) + p1).toNatClampNeg) then some ((0 : Int32), S) else some ((1 : Int32), S)) else none))))
theorem c_X11_isSo {p1 : Int32} {p2 : Int32} {p3 : Int32} {S : St} {r : Int32} {S' : St} (hf : f_X11_isSo p1 p2 p3 S = some (r, S')) : zM yX11_isSo cX11_isSo 4 2 (some .boolean) [.ref 122, .int p1, .int p2, .int p3] S (some (.int r)) S' := by
  refine zM_of (zpl (by decide)) (Nat.le_of_ble_eq_true rfl) rfl (fun K hK hA => ?_)
  unfold f_X11_isSo at hf
  refine j_iload_n hK dX11_isSo_0 2 rfl rfl ?_
  by_cases hs1 : p2 = (0 : Int32)
  · replace hf := if_1 hs1 hf
    refine j_tabC hK (0 : Int32) 32 dX11_isSo_1 hs1 (by decide) rfl (by decide) ?_
    refine j_aload_n hK dX11_isSo_32 0 rfl rfl ?_
    refine j_getR hK fl_X11_31 dX11_isSo_33 zo_122 zf_11_7 zr_122_7 ?_
    refine j_iload_n hK dX11_isSo_36 1 rfl rfl ?_
    obtain ⟨hi2, hf⟩ := gd hf
    refine k_iald hK dX11_isSo_37 zb_126 hi2 rfl ?_
    refine j_iload_n hK dX11_isSo_38 3 rfl rfl ?_
    refine j_icmp_lt hK 46 dX11_isSo_39 (by decide) (fun hc => ?_) (fun hc => ?_)
    · replace hf := if_1 hc hf
      refine j_iconst hK (0 : Int32) dX11_isSo_46 ic_0 ?_
      exact j_zret hK dX11_isSo_47 rfl rfl (rt_I hA hf)
    · replace hf := if_2 hc hf
      refine j_iconst hK (1 : Int32) dX11_isSo_42 ic_1 ?_
      refine j_goto hK 47 dX11_isSo_43 (by decide) ?_
      exact j_zret hK dX11_isSo_47 rfl rfl (rt_I hA hf)
  · replace hf := if_2 hs1 hf
    by_cases hs3 : p2 = (1 : Int32)
    · replace hf := if_1 hs3 hf
      refine j_tabC hK (1 : Int32) 48 dX11_isSo_1 hs3 (by decide) rfl (by decide) ?_
      refine j_aload_n hK dX11_isSo_48 0 rfl rfl ?_
      refine j_iload_n hK dX11_isSo_49 1 rfl rfl ?_
      refine j_iload_n hK dX11_isSo_50 3 rfl rfl ?_
      obtain ⟨r4, S5, h6, hf⟩ := bd_J hf
      refine k_callVi hK (c_X11_isEnd h6) dX11_isSo_51 zclX11 zo_122 ml_X11_266 mi_X11_isEnd mx_X11_isEnd in_X11 mc_X11_isEnd hy_X11_isEnd ⟨by decide, by decide⟩ rfl (Nat.le_of_ble_eq_true rfl) ?_
      obtain ⟨hz, hf⟩ := gd hf
      exact j_zret hK dX11_isSo_54 rfl (nz hz) (rt_I hA hf)
    · replace hf := if_2 hs3 hf
      by_cases hs7 : p2 = (2 : Int32)
      · replace hf := if_1 hs7 hf
        refine j_tabC hK (2 : Int32) 55 dX11_isSo_1 hs7 (by decide) rfl (by decide) ?_
        refine j_aload_n hK dX11_isSo_55 0 rfl rfl ?_
        refine j_getR hK fl_X11_31 dX11_isSo_56 zo_122 zf_11_7 zr_122_7 ?_
        refine j_bipush hK (12 : Int32) dX11_isSo_59 bi_12 ?_
        refine j_iload_n hK dX11_isSo_61 1 rfl rfl ?_
        refine j_iadd hK dX11_isSo_62 ?_
        obtain ⟨hi8, hf⟩ := gd hf
        refine k_iald hK dX11_isSo_63 zb_126 hi8 rfl ?_
        refine j_iload_n hK dX11_isSo_64 3 rfl rfl ?_
        refine j_pc (pc' := 65) rfl ?_
        refine j_icmp_ne hK 72 dX11_isSo_65 (by decide) (fun hc => ?_) (fun hc => ?_)
        · replace hf := if_2 hc hf
          refine j_iconst hK (0 : Int32) dX11_isSo_72 ic_0 ?_
          exact j_zret hK dX11_isSo_73 rfl rfl (rt_I hA hf)
        · replace hf := if_1 hc hf
          refine j_iconst hK (1 : Int32) dX11_isSo_68 ic_1 ?_
          refine j_goto hK 73 dX11_isSo_69 (by decide) ?_
          exact j_zret hK dX11_isSo_73 rfl rfl (rt_I hA hf)
      · replace hf := if_2 hs7 hf
        by_cases hs9 : p2 = (3 : Int32)
        · replace hf := if_1 hs9 hf
          refine j_tabC hK (3 : Int32) 74 dX11_isSo_1 hs9 (by decide) rfl (by decide) ?_
          refine j_aload_n hK dX11_isSo_74 0 rfl rfl ?_
          refine j_getR hK fl_X11_31 dX11_isSo_75 zo_122 zf_11_7 zr_122_7 ?_
          refine j_bipush hK (36 : Int32) dX11_isSo_78 bi_36 ?_
          refine k_iald hK dX11_isSo_80 zb_126 (by decide) tn_36 ?_
          refine j_iload_n hK dX11_isSo_81 1 rfl rfl ?_
          obtain ⟨r10, S11, h12, hf⟩ := bd_J hf
          refine k_callSi hK (c_X11_has h12) dX11_isSo_82 ml_X11_262 ms_X11_has in_X11 mc_X11_has hy_X11_has ⟨by decide, by decide⟩ rfl (Nat.le_of_ble_eq_true rfl) ?_
          obtain ⟨r13, S14, h15, hf⟩ := bd_J hf
          refine k_callSi hK (c_X11_flag h15) dX11_isSo_85 ml_X11_155 ms_X11_flag in_X11 mc_X11_flag hy_X11_flag ⟨by decide, by decide⟩ rfl (Nat.le_of_ble_eq_true rfl) ?_
          refine j_pc (pc' := 88) rfl ?_
          refine j_iload_n hK dX11_isSo_88 3 rfl rfl ?_
          refine j_icmp_ne hK 96 dX11_isSo_89 (by decide) (fun hc => ?_) (fun hc => ?_)
          · replace hf := if_2 hc hf
            refine j_iconst hK (0 : Int32) dX11_isSo_96 ic_0 ?_
            exact j_zret hK dX11_isSo_97 rfl rfl (rt_I hA hf)
          · replace hf := if_1 hc hf
            refine j_iconst hK (1 : Int32) dX11_isSo_92 ic_1 ?_
            refine j_goto hK 97 dX11_isSo_93 (by decide) ?_
            exact j_zret hK dX11_isSo_97 rfl rfl (rt_I hA hf)
        · replace hf := if_2 hs9 hf
          refine j_tabOut hK 98 dX11_isSo_1 (by have q := And.intro (ne_toInt 0 (by decide) hs1) (And.intro (ne_toInt 1 (by decide) hs3) (And.intro (ne_toInt 2 (by decide) hs7) (And.intro (ne_toInt 3 (by decide) hs9) trivial))); omega) (by decide) ?_
          refine j_aload_n hK dX11_isSo_98 0 rfl rfl ?_
          refine j_getR hK fl_X11_31 dX11_isSo_99 zo_122 zf_11_7 zr_122_7 ?_
          refine j_bipush hK (24 : Int32) dX11_isSo_102 bi_24 ?_
          refine j_iload_n hK dX11_isSo_104 1 rfl rfl ?_
          refine j_iadd hK dX11_isSo_105 ?_
          obtain ⟨hi16, hf⟩ := gd hf
          refine k_iald hK dX11_isSo_106 zb_126 hi16 rfl ?_
          refine j_iload_n hK dX11_isSo_107 3 rfl rfl ?_
          refine j_pc (pc' := 108) rfl ?_
          refine j_icmp_gt hK 115 dX11_isSo_108 (by decide) (fun hc => ?_) (fun hc => ?_)
          · replace hf := if_1 hc hf
            refine j_iconst hK (0 : Int32) dX11_isSo_115 ic_0 ?_
            exact j_zret hK dX11_isSo_116 rfl rfl (rt_I hA hf)
          · replace hf := if_2 hc hf
            refine j_iconst hK (1 : Int32) dX11_isSo_111 ic_1 ?_
            refine j_goto hK 116 dX11_isSo_112 (by decide) ?_
            exact j_zret hK dX11_isSo_116 rfl rfl (rt_I hA hf)
def f_X11_fitting_76 (x2 : Int32) (s0 : Int32) (s1 : Int32) (k e : Int32 × Int32 → St → Option (Int32 × St)) (S : St) : Option (Int32 × St) := lt (s0 ||| s1) (fun y1 => k (y1, (x2 + (1 : Int32))) S)
theorem t_X11_fitting_76 {K : CT} (hK : KO K cX11_fitting RX11 5 3 (some .int)) {r : Int32} {S' : St} (hA : zans K = (some (.int r), S')) {x2 : Int32} {s0 : Int32} {s1 : Int32} {k e : Int32 × Int32 → St → Option (Int32 × St)} (hk : ∀ (v : Int32 × Int32) (S : St), k v S = some (r, S') → J K 4 [(0, .ref 122), (1, .int v.1), (2, .int v.2)] [] S) (he : ∀ (v : Int32 × Int32) (S : St), e v S = some (r, S') → J K 84 [(1, .int v.1)] [] S) {S : St} (hf : f_X11_fitting_76 x2 s0 s1 k e S = some (r, S')) : J K 76 [(0, .ref 122), (2, .int x2)] [.int s1, .int s0] S := by
  unfold f_X11_fitting_76 at hf
  refine j_ior hK dX11_fitting_76 ?_
  refine lt_I hf (fun y1 hf => ?_)
  refine j_istore_n hK (L' := [(1, .int y1), (0, .ref 122), (2, .int x2)]) dX11_fitting_77 rfl (by decide) rfl ?_
  refine j_iinc hK (L' := [(2, .int (x2 + (1 : Int32))), (1, .int y1), (0, .ref 122)]) dX11_fitting_78 2 rfl (congrArg (fun y => x2 + y) ic_1) (by decide) rfl ?_
  refine j_goto hK 4 dX11_fitting_81 (by decide) ?_
  refine j_sub [2, 1, 0] rfl ?_
  exact hk _ _ hf
def f_X11_fitting_57 (x1 : Int32) (x2 : Int32) (x4 : Int32) (s0 : Int32) (k e : Int32 × Int32 → St → Option (Int32 × St)) (S : St) : Option (Int32 × St) := k (s0, (x4 + (1 : Int32))) S
theorem t_X11_fitting_57 {K : CT} (hK : KO K cX11_fitting RX11 5 3 (some .int)) {r : Int32} {S' : St} (hA : zans K = (some (.int r), S')) {x1 : Int32} {x2 : Int32} {x4 : Int32} {s0 : Int32} {k e : Int32 × Int32 → St → Option (Int32 × St)} (hk : ∀ (v : Int32 × Int32) (S : St), k v S = some (r, S') → J K 17 [(0, .ref 122), (1, .int x1), (2, .int x2), (3, .int v.1), (4, .int v.2)] [] S) (he : ∀ (v : Int32 × Int32) (S : St), e v S = some (r, S') → J K 64 [(0, .ref 122), (1, .int x1), (2, .int x2), (3, .int v.1)] [] S) {S : St} (hf : f_X11_fitting_57 x1 x2 x4 s0 k e S = some (r, S')) : J K 57 [(0, .ref 122), (1, .int x1), (2, .int x2), (4, .int x4)] [.int s0] S := by
  unfold f_X11_fitting_57 at hf
  refine j_istore_n hK (L' := [(3, .int s0), (0, .ref 122), (1, .int x1), (2, .int x2), (4, .int x4)]) dX11_fitting_57 rfl (by decide) rfl ?_
  refine j_iinc hK (L' := [(4, .int (x4 + (1 : Int32))), (3, .int s0), (0, .ref 122), (1, .int x1), (2, .int x2)]) dX11_fitting_58 4 rfl (congrArg (fun y => x4 + y) ic_1) (by decide) rfl ?_
  refine j_goto hK 17 dX11_fitting_61 (by decide) ?_
  refine j_sub [2, 3, 4, 1, 0] rfl ?_
  exact hk _ _ hf
def f_X11_fitting_56 (x1 : Int32) (x2 : Int32) (x4 : Int32) (k e : Int32 × Int32 → St → Option (Int32 × St)) (S : St) : Option (Int32 × St) := f_X11_fitting_57 x1 x2 x4 (0 : Int32) k e S
theorem t_X11_fitting_56 {K : CT} (hK : KO K cX11_fitting RX11 5 3 (some .int)) {r : Int32} {S' : St} (hA : zans K = (some (.int r), S')) {x1 : Int32} {x2 : Int32} {x4 : Int32} {k e : Int32 × Int32 → St → Option (Int32 × St)} (hk : ∀ (v : Int32 × Int32) (S : St), k v S = some (r, S') → J K 17 [(0, .ref 122), (1, .int x1), (2, .int x2), (3, .int v.1), (4, .int v.2)] [] S) (he : ∀ (v : Int32 × Int32) (S : St), e v S = some (r, S') → J K 64 [(0, .ref 122), (1, .int x1), (2, .int x2), (3, .int v.1)] [] S) {S : St} (hf : f_X11_fitting_56 x1 x2 x4 k e S = some (r, S')) : J K 56 [(0, .ref 122), (1, .int x1), (2, .int x2), (4, .int x4)] [] S := by
  unfold f_X11_fitting_56 at hf
  refine j_iconst hK (0 : Int32) dX11_fitting_56 ic_0 ?_
  exact t_X11_fitting_57 hK hA hk he hf
def f_X11_fitting_17b (x1 : Int32) (x2 : Int32) (e : Int32 × Int32 → St → Option (Int32 × St)) (k : Int32 × Int32 → St → Option (Int32 × St)) (v : Int32 × Int32) (S : St) : Option (Int32 × St) := (if (gI S 122 39) ≤ v.2 then e (v.1, v.2) S else (if v.1 = 0 then f_X11_fitting_56 x1 x2 v.2 k e S else if inb v.2 12 then if inb v.2 12 then bd (f_X11_isSo x2 (gI S 146 v.2.toNatClampNeg) (gI S 147 v.2.toNatClampNeg) S) (fun r4 S5 => (if r4 = 0 then f_X11_fitting_56 x1 x2 v.2 k e S5 else f_X11_fitting_57 x1 x2 v.2 (1 : Int32) k e S5)) else none else none))
theorem t_X11_fitting_17 {K : CT} (hK : KO K cX11_fitting RX11 5 3 (some .int)) {r : Int32} {S' : St} (hA : zans K = (some (.int r), S')) {x1 : Int32} {x2 : Int32} {e : Int32 × Int32 → St → Option (Int32 × St)} (he : ∀ (v : Int32 × Int32) (S : St), e v S = some (r, S') → J K 64 [(0, .ref 122), (1, .int x1), (2, .int x2), (3, .int v.1)] [] S) : ∀ (n : Nat) (v : Int32 × Int32) (S : St), lp (f_X11_fitting_17b x1 x2 e) n v S = some (r, S') → J K 17 [(0, .ref 122), (1, .int x1), (2, .int x2), (3, .int v.1), (4, .int v.2)] [] S :=
  lp_J (P := fun (v : Int32 × Int32) (S : St) => J K 17 [(0, .ref 122), (1, .int x1), (2, .int x2), (3, .int v.1), (4, .int v.2)] [] S) (fun k hk v S hf => by
    unfold f_X11_fitting_17b at hf
    refine j_iload hK dX11_fitting_17 4 rfl ?_
    refine j_aload_n hK dX11_fitting_19 0 rfl rfl ?_
    refine j_getI hK fl_X11_408 dX11_fitting_20 zo_122 zf_11_39 ?_
    refine j_icmp_ge hK 64 dX11_fitting_23 (by decide) (fun hc => ?_) (fun hc => ?_)
    · replace hf := if_1 hc hf
      refine j_sub [0, 1, 2, 3] rfl ?_
      exact he _ _ hf
    · replace hf := if_2 hc hf
      refine j_iload_n hK dX11_fitting_26 3 rfl rfl ?_
      refine j_if_eq hK 56 dX11_fitting_27 (by decide) (fun hc => ?_) (fun hc => ?_)
      · replace hf := if_1 hc hf
        refine j_sub [0, 1, 2, 4] rfl ?_
        exact t_X11_fitting_56 hK hA hk he hf
      · replace hf := if_2 hc hf
        refine j_aload_n hK dX11_fitting_30 0 rfl rfl ?_
        refine j_iload_n hK dX11_fitting_31 2 rfl rfl ?_
        refine j_aload_n hK dX11_fitting_32 0 rfl rfl ?_
        refine j_getR hK fl_X11_92 dX11_fitting_33 zo_122 zf_11_40 zr_122_40 ?_
        refine j_iload hK dX11_fitting_36 4 rfl ?_
        obtain ⟨hi2, hf⟩ := gd hf
        refine k_iald hK dX11_fitting_38 zb_146 hi2 rfl ?_
        refine j_aload_n hK dX11_fitting_39 0 rfl rfl ?_
        refine j_pc (pc' := 40) rfl ?_
        refine j_getR hK fl_X11_95 dX11_fitting_40 zo_122 zf_11_41 zr_122_41 ?_
        refine j_iload hK dX11_fitting_43 4 rfl ?_
        obtain ⟨hi3, hf⟩ := gd hf
        refine k_iald hK dX11_fitting_45 zb_147 hi3 rfl ?_
        obtain ⟨r4, S5, h6, hf⟩ := bd_J hf
        refine k_callVi hK (c_X11_isSo h6) dX11_fitting_46 zclX11 zo_122 ml_X11_411 mi_X11_isSo mx_X11_isSo in_X11 mc_X11_isSo hy_X11_isSo ⟨by decide, by decide⟩ rfl (Nat.le_of_ble_eq_true rfl) ?_
        refine j_if_eq hK 56 dX11_fitting_49 (by decide) (fun hc => ?_) (fun hc => ?_)
        · replace hf := if_1 hc hf
          refine j_sub [0, 1, 2, 4] rfl ?_
          exact t_X11_fitting_56 hK hA hk he hf
        · replace hf := if_2 hc hf
          refine j_iconst hK (1 : Int32) dX11_fitting_52 ic_1 ?_
          refine j_goto hK 57 dX11_fitting_53 (by decide) ?_
          refine j_sub [0, 1, 2, 4] rfl ?_
          exact t_X11_fitting_57 hK hA hk he hf)
def f_X11_fitting_4b (e : Int32 × Int32 → St → Option (Int32 × St)) (k : Int32 × Int32 → St → Option (Int32 × St)) (v : Int32 × Int32) (S : St) : Option (Int32 × St) := (if (gI S 122 3) ≤ v.2 then e (v.1, v.2) S else lp (f_X11_fitting_17b v.1 v.2 (fun v7 S8 => (if v7.1 = 0 then f_X11_fitting_76 v.2 v.1 (0 : Int32) k e S8 else f_X11_fitting_76 v.2 v.1 ((1 : Int32) <<< (v.2 &&& 31)) k e S8))) FU ((1 : Int32), (0 : Int32)) S)
theorem t_X11_fitting_4 {K : CT} (hK : KO K cX11_fitting RX11 5 3 (some .int)) {r : Int32} {S' : St} (hA : zans K = (some (.int r), S')) {e : Int32 × Int32 → St → Option (Int32 × St)} (he : ∀ (v : Int32 × Int32) (S : St), e v S = some (r, S') → J K 84 [(1, .int v.1)] [] S) : ∀ (n : Nat) (v : Int32 × Int32) (S : St), lp (f_X11_fitting_4b  e) n v S = some (r, S') → J K 4 [(0, .ref 122), (1, .int v.1), (2, .int v.2)] [] S :=
  lp_J (P := fun (v : Int32 × Int32) (S : St) => J K 4 [(0, .ref 122), (1, .int v.1), (2, .int v.2)] [] S) (fun k hk v S hf => by
    unfold f_X11_fitting_4b at hf
    refine j_iload_n hK dX11_fitting_4 2 rfl rfl ?_
    refine j_aload_n hK dX11_fitting_5 0 rfl rfl ?_
    refine j_getI hK fl_X11_128 dX11_fitting_6 zo_122 zf_11_3 ?_
    refine j_icmp_ge hK 84 dX11_fitting_9 (by decide) (fun hc => ?_) (fun hc => ?_)
    · replace hf := if_1 hc hf
      refine j_sub [1] rfl ?_
      exact he _ _ hf
    · replace hf := if_2 hc hf
      refine j_iconst hK (1 : Int32) dX11_fitting_12 ic_1 ?_
      refine j_istore_n hK (L' := [(3, .int (1 : Int32)), (0, .ref 122), (1, .int v.1), (2, .int v.2)]) dX11_fitting_13 rfl (by decide) rfl ?_
      refine j_iconst hK (0 : Int32) dX11_fitting_14 ic_0 ?_
      refine j_istore hK (L' := [(4, .int (0 : Int32)), (3, .int (1 : Int32)), (0, .ref 122), (1, .int v.1), (2, .int v.2)]) dX11_fitting_15 (by decide) rfl ?_
      refine j_sub [2, 3, 4, 1, 0] rfl ?_
      refine t_X11_fitting_17 hK hA  (fun v7 S8 hf => ?_) _ _ _ hf
      refine j_iload_n hK dX11_fitting_64 1 rfl rfl ?_
      refine j_iload_n hK dX11_fitting_65 3 rfl rfl ?_
      refine j_if_eq hK 75 dX11_fitting_66 (by decide) (fun hc => ?_) (fun hc => ?_)
      · replace hf := if_1 hc hf
        refine j_iconst hK (0 : Int32) dX11_fitting_75 ic_0 ?_
        refine j_sub [0, 2] rfl ?_
        exact t_X11_fitting_76 hK hA hk he hf
      · replace hf := if_2 hc hf
        refine j_iconst hK (1 : Int32) dX11_fitting_69 ic_1 ?_
        refine j_iload_n hK dX11_fitting_70 2 rfl rfl ?_
        refine j_ishl hK dX11_fitting_71 ?_
        refine j_goto hK 76 dX11_fitting_72 (by decide) ?_
        refine j_sub [0, 2] rfl ?_
        exact t_X11_fitting_76 hK hA hk he hf)
def f_X11_fitting (S : St) : Option (Int32 × St) := lp (f_X11_fitting_4b  (fun v9 S10 => some (v9.1, S10))) FU ((0 : Int32), (0 : Int32)) S
theorem c_X11_fitting {S : St} {r : Int32} {S' : St} (hf : f_X11_fitting S = some (r, S')) : zM yX11_fitting cX11_fitting 5 3 (some .int) [.ref 122] S (some (.int r)) S' := by
  refine zM_of (zpl (by decide)) (Nat.le_of_ble_eq_true rfl) rfl (fun K hK hA => ?_)
  unfold f_X11_fitting at hf
  refine j_iconst hK (0 : Int32) dX11_fitting_0 ic_0 ?_
  refine j_istore_n hK (L' := [(1, .int (0 : Int32)), (0, .ref 122)]) dX11_fitting_1 rfl (by decide) rfl ?_
  refine j_iconst hK (0 : Int32) dX11_fitting_2 ic_0 ?_
  refine j_istore_n hK (L' := [(2, .int (0 : Int32)), (1, .int (0 : Int32)), (0, .ref 122)]) dX11_fitting_3 rfl (by decide) rfl ?_
  refine j_sub [2, 1, 0] rfl ?_
  refine t_X11_fitting_4 hK hA  (fun v9 S10 hf => ?_) _ _ _ hf
  refine j_iload_n hK dX11_fitting_84 0 rfl rfl ?_
  exact j_iret hK dX11_fitting_85 rfl (rt_I hA hf)
def f_X11_fits (S : St) : Option (Int32 × St) := lt (sI S 122 0 (0 : Int32)) (fun S1 => bd (f_X11_fitting S1) (fun r2 S3 => lt (sI S3 122 1 (0 : Int32)) (fun S5 => bd (f_J6_bitCount_0f7a4 r2 S5) (fun r6 S7 => bd (f_X11_enters r6.toInt64 S7) (fun r9 S10 => some (r2, S10))))))
theorem c_X11_fits {S : St} {r : Int32} {S' : St} (hf : f_X11_fits S = some (r, S')) : zM yX11_fits cX11_fits 2 4 (some .int) [.ref 122] S (some (.int r)) S' := by
  refine zM_of (zpl (by decide)) (Nat.le_of_ble_eq_true rfl) rfl (fun K hK hA => ?_)
  unfold f_X11_fits at hf
  refine j_aload_n hK dX11_fits_0 0 rfl rfl ?_
  refine j_iconst hK (0 : Int32) dX11_fits_1 ic_0 ?_
  refine j_putI hK fl_X11_3 dX11_fits_2 zo_122 zf_11_0 ?_
  refine lt_S hf (fun S1 hf => ?_)
  refine j_aload_n hK dX11_fits_5 0 rfl rfl ?_
  obtain ⟨r2, S3, h4, hf⟩ := bd_J hf
  refine k_callVi hK (c_X11_fitting h4) dX11_fits_6 zclX11 zo_122 ml_X11_415 mi_X11_fitting mx_X11_fitting in_X11 mc_X11_fitting hy_X11_fitting ⟨by decide, by decide⟩ rfl (Nat.le_of_ble_eq_true rfl) ?_
  refine j_istore_n hK (L' := [(1, .int r2), (0, .ref 122)]) dX11_fits_9 rfl (by decide) rfl ?_
  refine j_aload_n hK dX11_fits_10 1 rfl rfl ?_
  refine j_iconst hK (0 : Int32) dX11_fits_11 ic_0 ?_
  refine j_pc (pc' := 12) rfl ?_
  refine j_putI hK fl_X11_15 dX11_fits_12 zo_122 zf_11_1 ?_
  refine lt_S hf (fun S5 hf => ?_)
  refine j_aload_n hK dX11_fits_15 1 rfl rfl ?_
  refine j_iload_n hK dX11_fits_16 0 rfl rfl ?_
  obtain ⟨r6, S7, h8, hf⟩ := bd_J hf
  refine k_callSi hK (c_J6_bitCount_0f7a4 h8) dX11_fits_17 ml_X11_355 ms_J6_bitCount_0f7a4 in_J6 mc_J6_bitCount_0f7a4 hy_J6_bitCount_0f7a4 ⟨by decide, by decide⟩ rfl (Nat.le_of_ble_eq_true rfl) ?_
  refine j_i2l hK dX11_fits_20 ?_
  obtain ⟨r9, S10, h11, hf⟩ := bd_J hf
  refine k_callVv hK (c_X11_enters h11) dX11_fits_21 zclX11 zo_122 ml_X11_340 mi_X11_enters mx_X11_enters in_X11 mc_X11_enters hy_X11_enters ⟨by decide, by decide⟩ rfl (Nat.le_of_ble_eq_true rfl) ?_
  refine j_iload_n hK dX11_fits_24 0 rfl rfl ?_
  exact j_iret hK dX11_fits_25 rfl (rt_I hA hf)
def f_X11_next_113 (x1 : Int32) (x3 : Int32) (x4 : Int32) (x6 : Int32) (s0 : Int32) (k e : Int32 × Int32 × Int32 → St → Option (Int32 × St)) (S : St) : Option (Int32 × St) := lt (mnI x3 x6) (fun y1 => k (s0, y1, (x4 + (1 : Int32))) S)
theorem t_X11_next_113 {K : CT} (hK : KO K cX11_next RX11 7 4 (some .int)) {r : Int32} {S' : St} (hA : zans K = (some (.int r), S')) {x1 : Int32} {x3 : Int32} {x4 : Int32} {x6 : Int32} {s0 : Int32} {k e : Int32 × Int32 × Int32 → St → Option (Int32 × St)} (hk : ∀ (v : Int32 × Int32 × Int32) (S : St), k v S = some (r, S') → J K 26 [(0, .ref 122), (1, .int x1), (2, .int v.1), (3, .int v.2.1), (4, .int v.2.2)] [] S) (he : ∀ (v : Int32 × Int32 × Int32) (S : St), e v S = some (r, S') → J K 127 [(0, .ref 122), (2, .int v.1), (3, .int v.2.1)] [] S) {S : St} (hf : f_X11_next_113 x1 x3 x4 x6 s0 k e S = some (r, S')) : J K 113 [(0, .ref 122), (1, .int x1), (3, .int x3), (4, .int x4), (6, .int x6)] [.int s0] S := by
  unfold f_X11_next_113 at hf
  refine j_istore_n hK (L' := [(2, .int s0), (0, .ref 122), (1, .int x1), (3, .int x3), (4, .int x4), (6, .int x6)]) dX11_next_113 rfl (by decide) rfl ?_
  refine j_iload_n hK dX11_next_114 3 rfl rfl ?_
  refine j_iload hK dX11_next_115 5 rfl ?_
  refine j_min hK ml_X11_146 dX11_next_117 (by decide) (Nat.le_of_ble_eq_true rfl) ?_
  refine lt_I hf (fun y1 hf => ?_)
  refine j_istore_n hK (L' := [(3, .int y1), (2, .int s0), (0, .ref 122), (1, .int x1), (4, .int x4), (6, .int x6)]) dX11_next_120 rfl (by decide) rfl ?_
  refine j_iinc hK (L' := [(4, .int (x4 + (1 : Int32))), (3, .int y1), (2, .int s0), (0, .ref 122), (1, .int x1), (6, .int x6)]) dX11_next_121 4 rfl (congrArg (fun y => x4 + y) ic_1) (by decide) rfl ?_
  refine j_goto hK 26 dX11_next_124 (by decide) ?_
  refine j_sub [3, 4, 2, 1, 0] rfl ?_
  exact hk _ _ hf
def f_X11_next_75 (x1 : Int32) (x2 : Int32) (x3 : Int32) (x4 : Int32) (x6 : Int32) (s0 : Int32) (s1 : Int32) (k e : Int32 × Int32 → St → Option (Int32 × St)) (S : St) : Option (Int32 × St) := bd (f_X11_flag s1 S) (fun r2 S3 => lt (s0 + r2) (fun y5 => k (y5, (x6 + (1 : Int32))) S3))
theorem t_X11_next_75 {K : CT} (hK : KO K cX11_next RX11 7 4 (some .int)) {r : Int32} {S' : St} (hA : zans K = (some (.int r), S')) {x1 : Int32} {x2 : Int32} {x3 : Int32} {x4 : Int32} {x6 : Int32} {s0 : Int32} {s1 : Int32} {k e : Int32 × Int32 → St → Option (Int32 × St)} (hk : ∀ (v : Int32 × Int32) (S : St), k v S = some (r, S') → J K 39 [(0, .ref 122), (1, .int x1), (2, .int x2), (3, .int x3), (4, .int x4), (5, .int v.1), (6, .int v.2)] [] S) (he : ∀ (v : Int32 × Int32) (S : St), e v S = some (r, S') → J K 87 [(0, .ref 122), (1, .int x1), (2, .int x2), (3, .int x3), (4, .int x4), (5, .int v.1)] [] S) {S : St} (hf : f_X11_next_75 x1 x2 x3 x4 x6 s0 s1 k e S = some (r, S')) : J K 75 [(0, .ref 122), (1, .int x1), (2, .int x2), (3, .int x3), (4, .int x4), (6, .int x6)] [.int s1, .int s0] S := by
  unfold f_X11_next_75 at hf
  obtain ⟨r2, S3, h4, hf⟩ := bd_J hf
  refine k_callSi hK (c_X11_flag h4) dX11_next_75 ml_X11_155 ms_X11_flag in_X11 mc_X11_flag hy_X11_flag ⟨by decide, by decide⟩ rfl (Nat.le_of_ble_eq_true rfl) ?_
  refine j_iadd hK dX11_next_78 ?_
  refine lt_I hf (fun y5 hf => ?_)
  refine j_istore hK (L' := [(5, .int y5), (0, .ref 122), (1, .int x1), (2, .int x2), (3, .int x3), (4, .int x4), (6, .int x6)]) dX11_next_79 (by decide) rfl ?_
  refine j_iinc hK (L' := [(6, .int (x6 + (1 : Int32))), (5, .int y5), (0, .ref 122), (1, .int x1), (2, .int x2), (3, .int x3), (4, .int x4)]) dX11_next_81 6 rfl (congrArg (fun y => x6 + y) ic_1) (by decide) rfl ?_
  refine j_goto hK 39 dX11_next_84 (by decide) ?_
  refine j_sub [2, 3, 4, 5, 6, 1, 0] rfl ?_
  exact hk _ _ hf
def f_X11_next_74 (x1 : Int32) (x2 : Int32) (x3 : Int32) (x4 : Int32) (x6 : Int32) (s0 : Int32) (k e : Int32 × Int32 → St → Option (Int32 × St)) (S : St) : Option (Int32 × St) := f_X11_next_75 x1 x2 x3 x4 x6 s0 (0 : Int32) k e S
theorem t_X11_next_74 {K : CT} (hK : KO K cX11_next RX11 7 4 (some .int)) {r : Int32} {S' : St} (hA : zans K = (some (.int r), S')) {x1 : Int32} {x2 : Int32} {x3 : Int32} {x4 : Int32} {x6 : Int32} {s0 : Int32} {k e : Int32 × Int32 → St → Option (Int32 × St)} (hk : ∀ (v : Int32 × Int32) (S : St), k v S = some (r, S') → J K 39 [(0, .ref 122), (1, .int x1), (2, .int x2), (3, .int x3), (4, .int x4), (5, .int v.1), (6, .int v.2)] [] S) (he : ∀ (v : Int32 × Int32) (S : St), e v S = some (r, S') → J K 87 [(0, .ref 122), (1, .int x1), (2, .int x2), (3, .int x3), (4, .int x4), (5, .int v.1)] [] S) {S : St} (hf : f_X11_next_74 x1 x2 x3 x4 x6 s0 k e S = some (r, S')) : J K 74 [(0, .ref 122), (1, .int x1), (2, .int x2), (3, .int x3), (4, .int x4), (6, .int x6)] [.int s0] S := by
  unfold f_X11_next_74 at hf
  refine j_iconst hK (0 : Int32) dX11_next_74 ic_0 ?_
  exact t_X11_next_75 hK hA hk he hf
def f_X11_next_39b (x1 : Int32) (x2 : Int32) (x3 : Int32) (x4 : Int32) (e : Int32 × Int32 → St → Option (Int32 × St)) (k : Int32 × Int32 → St → Option (Int32 × St)) (v : Int32 × Int32) (S : St) : Option (Int32 × St) := (if (gI S 122 3) ≤ v.2 then e (v.1, v.2) S else bd (f_X11_has x1 v.2 S) (fun r6 S7 => (if r6 = 0 then f_X11_next_74 x1 x2 x3 x4 v.2 v.1 k e S7 else bd (f_X11_isEnd v.2 x4 S7) (fun r9 S10 => (if r9 = 0 then f_X11_next_74 x1 x2 x3 x4 v.2 v.1 k e S10 else f_X11_next_75 x1 x2 x3 x4 v.2 v.1 (1 : Int32) k e S10)))))
theorem t_X11_next_39 {K : CT} (hK : KO K cX11_next RX11 7 4 (some .int)) {r : Int32} {S' : St} (hA : zans K = (some (.int r), S')) {x1 : Int32} {x2 : Int32} {x3 : Int32} {x4 : Int32} {e : Int32 × Int32 → St → Option (Int32 × St)} (he : ∀ (v : Int32 × Int32) (S : St), e v S = some (r, S') → J K 87 [(0, .ref 122), (1, .int x1), (2, .int x2), (3, .int x3), (4, .int x4), (5, .int v.1)] [] S) : ∀ (n : Nat) (v : Int32 × Int32) (S : St), lp (f_X11_next_39b x1 x2 x3 x4 e) n v S = some (r, S') → J K 39 [(0, .ref 122), (1, .int x1), (2, .int x2), (3, .int x3), (4, .int x4), (5, .int v.1), (6, .int v.2)] [] S :=
  lp_J (P := fun (v : Int32 × Int32) (S : St) => J K 39 [(0, .ref 122), (1, .int x1), (2, .int x2), (3, .int x3), (4, .int x4), (5, .int v.1), (6, .int v.2)] [] S) (fun k hk v S hf => by
    unfold f_X11_next_39b at hf
    refine j_iload hK dX11_next_39 6 rfl ?_
    refine j_aload_n hK dX11_next_41 0 rfl rfl ?_
    refine j_getI hK fl_X11_128 dX11_next_42 zo_122 zf_11_3 ?_
    refine j_icmp_ge hK 87 dX11_next_45 (by decide) (fun hc => ?_) (fun hc => ?_)
    · replace hf := if_1 hc hf
      refine j_sub [0, 1, 2, 3, 4, 5] rfl ?_
      exact he _ _ hf
    · replace hf := if_2 hc hf
      refine j_iload hK dX11_next_48 5 rfl ?_
      refine j_iload_n hK dX11_next_50 1 rfl rfl ?_
      refine j_iload hK dX11_next_51 6 rfl ?_
      obtain ⟨r6, S7, h8, hf⟩ := bd_J hf
      refine k_callSi hK (c_X11_has h8) dX11_next_53 ml_X11_262 ms_X11_has in_X11 mc_X11_has hy_X11_has ⟨by decide, by decide⟩ rfl (Nat.le_of_ble_eq_true rfl) ?_
      refine j_if_eq hK 74 dX11_next_56 (by decide) (fun hc => ?_) (fun hc => ?_)
      · replace hf := if_1 hc hf
        refine j_sub [0, 1, 2, 3, 4, 6] rfl ?_
        exact t_X11_next_74 hK hA hk he hf
      · replace hf := if_2 hc hf
        refine j_aload_n hK dX11_next_59 0 rfl rfl ?_
        refine j_iload hK dX11_next_60 6 rfl ?_
        refine j_iload hK dX11_next_62 4 rfl ?_
        obtain ⟨r9, S10, h11, hf⟩ := bd_J hf
        refine k_callVi hK (c_X11_isEnd h11) dX11_next_64 zclX11 zo_122 ml_X11_266 mi_X11_isEnd mx_X11_isEnd in_X11 mc_X11_isEnd hy_X11_isEnd ⟨by decide, by decide⟩ rfl (Nat.le_of_ble_eq_true rfl) ?_
        refine j_if_eq hK 74 dX11_next_67 (by decide) (fun hc => ?_) (fun hc => ?_)
        · replace hf := if_1 hc hf
          refine j_sub [0, 1, 2, 3, 4, 6] rfl ?_
          exact t_X11_next_74 hK hA hk he hf
        · replace hf := if_2 hc hf
          refine j_iconst hK (1 : Int32) dX11_next_70 ic_1 ?_
          refine j_goto hK 75 dX11_next_71 (by decide) ?_
          refine j_sub [0, 1, 2, 3, 4, 6] rfl ?_
          exact t_X11_next_75 hK hA hk he hf)
def f_X11_next_26b (x1 : Int32) (e : Int32 × Int32 × Int32 → St → Option (Int32 × St)) (k : Int32 × Int32 × Int32 → St → Option (Int32 × St)) (v : Int32 × Int32 × Int32) (S : St) : Option (Int32 × St) := (if (8 : Int32) ≤ v.2.2 then e (v.1, v.2.1, v.2.2) S else lp (f_X11_next_39b x1 v.1 v.2.1 v.2.2 (fun v12 S13 => bd (f_J6_bitCount_0f7a4 x1 S13) (fun r14 S15 => lt (mxI v12.1 (r14 - v12.1)) (fun y17 => (if v.2.1 ≤ y17 then f_X11_next_113 x1 v.2.1 v.2.2 y17 v.1 k e S15 else f_X11_next_113 x1 v.2.1 v.2.2 y17 v.2.2 k e S15))))) FU ((0 : Int32), (0 : Int32)) S)
theorem t_X11_next_26 {K : CT} (hK : KO K cX11_next RX11 7 4 (some .int)) {r : Int32} {S' : St} (hA : zans K = (some (.int r), S')) {x1 : Int32} {e : Int32 × Int32 × Int32 → St → Option (Int32 × St)} (he : ∀ (v : Int32 × Int32 × Int32) (S : St), e v S = some (r, S') → J K 127 [(0, .ref 122), (2, .int v.1), (3, .int v.2.1)] [] S) : ∀ (n : Nat) (v : Int32 × Int32 × Int32) (S : St), lp (f_X11_next_26b x1 e) n v S = some (r, S') → J K 26 [(0, .ref 122), (1, .int x1), (2, .int v.1), (3, .int v.2.1), (4, .int v.2.2)] [] S :=
  lp_J (P := fun (v : Int32 × Int32 × Int32) (S : St) => J K 26 [(0, .ref 122), (1, .int x1), (2, .int v.1), (3, .int v.2.1), (4, .int v.2.2)] [] S) (fun k hk v S hf => by
    unfold f_X11_next_26b at hf
    refine j_iload hK dX11_next_26 4 rfl ?_
    refine j_bipush hK (8 : Int32) dX11_next_28 bi_8 ?_
    refine j_icmp_ge hK 127 dX11_next_30 (by decide) (fun hc => ?_) (fun hc => ?_)
    · replace hf := if_1 hc hf
      refine j_sub [0, 2, 3] rfl ?_
      exact he _ _ hf
    · replace hf := if_2 hc hf
      refine j_iconst hK (0 : Int32) dX11_next_33 ic_0 ?_
      refine j_istore hK (L' := [(5, .int (0 : Int32)), (0, .ref 122), (1, .int x1), (2, .int v.1), (3, .int v.2.1), (4, .int v.2.2)]) dX11_next_34 (by decide) rfl ?_
      refine j_iconst hK (0 : Int32) dX11_next_36 ic_0 ?_
      refine j_istore hK (L' := [(6, .int (0 : Int32)), (5, .int (0 : Int32)), (0, .ref 122), (1, .int x1), (2, .int v.1), (3, .int v.2.1), (4, .int v.2.2)]) dX11_next_37 (by decide) rfl ?_
      refine j_sub [2, 3, 4, 5, 6, 1, 0] rfl ?_
      refine t_X11_next_39 hK hA  (fun v12 S13 hf => ?_) _ _ _ hf
      refine j_iload hK dX11_next_87 5 rfl ?_
      refine j_iload_n hK dX11_next_89 1 rfl rfl ?_
      obtain ⟨r14, S15, h16, hf⟩ := bd_J hf
      refine k_callSi hK (c_J6_bitCount_0f7a4 h16) dX11_next_90 ml_X11_355 ms_J6_bitCount_0f7a4 in_J6 mc_J6_bitCount_0f7a4 hy_J6_bitCount_0f7a4 ⟨by decide, by decide⟩ rfl (Nat.le_of_ble_eq_true rfl) ?_
      refine j_iload hK dX11_next_93 5 rfl ?_
      refine j_isub hK dX11_next_95 ?_
      refine j_max hK ml_X11_297 dX11_next_96 (by decide) (Nat.le_of_ble_eq_true rfl) ?_
      refine lt_I hf (fun y17 hf => ?_)
      refine j_istore hK (L' := [(6, .int y17), (0, .ref 122), (1, .int x1), (2, .int v.1), (3, .int v.2.1), (4, .int v.2.2), (5, .int v12.1)]) dX11_next_99 (by decide) rfl ?_
      refine j_pc (pc' := 101) rfl ?_
      refine j_iload hK dX11_next_101 0 rfl ?_
      refine j_iload_n hK dX11_next_103 4 rfl rfl ?_
      refine j_icmp_ge hK 112 dX11_next_104 (by decide) (fun hc => ?_) (fun hc => ?_)
      · replace hf := if_1 hc hf
        refine j_iload_n hK dX11_next_112 3 rfl rfl ?_
        refine j_sub [1, 2, 4, 5, 0] rfl ?_
        exact t_X11_next_113 hK hA hk he hf
      · replace hf := if_2 hc hf
        refine j_iload hK dX11_next_107 5 rfl ?_
        refine j_goto hK 113 dX11_next_109 (by decide) ?_
        refine j_sub [1, 2, 4, 5, 0] rfl ?_
        exact t_X11_next_113 hK hA hk he hf)
def f_X11_next (S : St) : Option (Int32 × St) := lt (sI S 122 0 (0 : Int32)) (fun S18 => bd (f_X11_fitting S18) (fun r19 S20 => (if r19 = 0 then some ((-2 : Int32), S20) else lp (f_X11_next_26b r19 (fun v22 S23 => lt (sI S23 122 1 (0 : Int32)) (fun S24 => bd (f_X11_enters v22.2.1.toInt64 S24) (fun r25 S26 => some (v22.1, S26))))) FU ((-1 : Int32), (1000000 : Int32), (0 : Int32)) S20)))
theorem c_X11_next {S : St} {r : Int32} {S' : St} (hf : f_X11_next S = some (r, S')) : zM yX11_next cX11_next 7 4 (some .int) [.ref 122] S (some (.int r)) S' := by
  refine zM_of (zpl (by decide)) (Nat.le_of_ble_eq_true rfl) rfl (fun K hK hA => ?_)
  unfold f_X11_next at hf
  refine j_aload_n hK dX11_next_0 0 rfl rfl ?_
  refine j_iconst hK (0 : Int32) dX11_next_1 ic_0 ?_
  refine j_putI hK fl_X11_3 dX11_next_2 zo_122 zf_11_0 ?_
  refine lt_S hf (fun S18 hf => ?_)
  refine j_aload_n hK dX11_next_5 0 rfl rfl ?_
  obtain ⟨r19, S20, h21, hf⟩ := bd_J hf
  refine k_callVi hK (c_X11_fitting h21) dX11_next_6 zclX11 zo_122 ml_X11_415 mi_X11_fitting mx_X11_fitting in_X11 mc_X11_fitting hy_X11_fitting ⟨by decide, by decide⟩ rfl (Nat.le_of_ble_eq_true rfl) ?_
  refine j_istore_n hK (L' := [(1, .int r19), (0, .ref 122)]) dX11_next_9 rfl (by decide) rfl ?_
  refine j_iload_n hK dX11_next_10 0 rfl rfl ?_
  refine j_if_ne hK 17 dX11_next_11 (by decide) (fun hc => ?_) (fun hc => ?_)
  · replace hf := if_2 hc hf
    refine j_iconst hK (-1 : Int32) dX11_next_17 ic_m1 ?_
    refine j_istore_n hK (L' := [(2, .int (-1 : Int32)), (1, .int r19), (0, .ref 122)]) dX11_next_18 rfl (by decide) rfl ?_
    refine j_ldcw hK (v := (1000000 : Int32)) cn_X11_290 dX11_next_19 ?_
    refine j_istore_n hK (L' := [(3, .int (1000000 : Int32)), (2, .int (-1 : Int32)), (1, .int r19), (0, .ref 122)]) dX11_next_22 rfl (by decide) rfl ?_
    refine j_iconst hK (0 : Int32) dX11_next_23 ic_0 ?_
    refine j_istore hK (L' := [(4, .int (0 : Int32)), (3, .int (1000000 : Int32)), (2, .int (-1 : Int32)), (1, .int r19), (0, .ref 122)]) dX11_next_24 (by decide) rfl ?_
    refine j_sub [4, 3, 2, 1, 0] rfl ?_
    refine t_X11_next_26 hK hA  (fun v22 S23 hf => ?_) _ _ _ hf
    refine j_aload_n hK dX11_next_127 0 rfl rfl ?_
    refine j_iconst hK (0 : Int32) dX11_next_128 ic_0 ?_
    refine j_putI hK fl_X11_15 dX11_next_129 zo_122 zf_11_1 ?_
    refine lt_S hf (fun S24 hf => ?_)
    refine j_aload_n hK dX11_next_132 0 rfl rfl ?_
    refine j_iload_n hK dX11_next_133 2 rfl rfl ?_
    refine j_i2l hK dX11_next_134 ?_
    obtain ⟨r25, S26, h27, hf⟩ := bd_J hf
    refine k_callVv hK (c_X11_enters h27) dX11_next_135 zclX11 zo_122 ml_X11_340 mi_X11_enters mx_X11_enters in_X11 mc_X11_enters hy_X11_enters ⟨by decide, by decide⟩ rfl (Nat.le_of_ble_eq_true rfl) ?_
    refine j_pc (pc' := 138) rfl ?_
    refine j_iload_n hK dX11_next_138 1 rfl rfl ?_
    exact j_iret hK dX11_next_139 rfl (rt_I hA hf)
  · replace hf := if_1 hc hf
    refine j_bipush hK (-2 : Int32) dX11_next_14 bi_m2 ?_
    exact j_iret hK dX11_next_16 rfl (rt_I hA hf)
