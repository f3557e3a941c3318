/-- the law's script is number 2000 -/
def zSc (K : CT) (N : Nat) (xs : Nat → Int32) : Prop := match K with
  | ((_, _, _, _, s), _, (_, ad, _), _) => va_X (ad 2000) N xs s s.heap ∧ ad 2000 < s.heap.size ∧ ¬ zA ad (ad 2000)
theorem zSc_up {K : CT} {N : Nat} {xs : Nat → Int32} (h : zSc K N xs) : zSc (zup K) N xs := h
section JS
variable {K : CT} {cc : ByteArray} {own : String} {nL d pc : Nat} {rt : Option FieldType} {L L' : List (Nat × Value)} {st st0 : List Value} {S : St}
theorem j_sld (hK : KO K cc own nL d rt) {N : Nat} {xs : Nat → Int32} (hsc : zSc K N xs) {i : Int32} (hd : decode cc pc = .ok (.iaload, 1)) (hin : vp_in i N) (kk : J K (pc + 1) L (.int (xs i.toNatClampNeg) :: st) S) : J K pc L (.int i :: .ref 2000 :: st) S := by
  obtain ⟨⟨p, l, e, R, s⟩, ⟨m, args, below, meth, c⟩, ⟨D, ad, cy⟩, ⟨Q, nc, ns⟩⟩ := K
  obtain ⟨hx, hb, hown, hml, hR, hr, hlk, hts, hKK, hinj, hzX⟩ := hK
  intro H locs ls hP hS hl'
  exact va_sld hx hb hsc.1 hsc.2.1 hsc.2.2 hS hin hd (kk H locs ls hP hS hl')
theorem j_slen (hK : KO K cc own nL d rt) {N : Nat} {xs : Nat → Int32} (hsc : zSc K N xs) (hd : decode cc pc = .ok (.arraylength, 1)) (kk : J K (pc + 1) L (.int (nI N) :: st) S) : J K pc L (.ref 2000 :: st) S := by
  obtain ⟨⟨p, l, e, R, s⟩, ⟨m, args, below, meth, c⟩, ⟨D, ad, cy⟩, ⟨Q, nc, ns⟩⟩ := K
  obtain ⟨hx, hb, hown, hml, hR, hr, hlk, hts, hKK, hinj, hzX⟩ := hK
  intro H locs ls hP hS hl'
  exact va_slen hx hb hsc.1 hsc.2.1 hsc.2.2 hS hd (kk H locs ls hP hS hl')
/-- a call of a helper -/
theorem j_callH (hK : KO K cc own nL d rt) {index : Nat} {y : MethodName} {code' : ByteArray} {nL' d' : Nat} {rt' : Option FieldType} {hh : List (Nat × Nat × Nat × Nat)} {As : List Value} {ra : Int32} {Sa : St}
    (hM : zMH y code' nL' d' rt' hh As S (some (.int ra)) Sa) (hz : zroom K) (hd : decode cc pc = .ok (.invokestatic index, 3))
    (w1 : Cond.methodLink own index y ∈ zT) (w2 : Cond.static y ∈ zT) (w4 : Cond.initialized y.cls ∈ zT) (w5 : Cond.codeWith y code' nL' rt' hh ∈ zT)
    (hy : y.cls ≠ "java/lang/invoke/MethodHandle" ∧ y.cls ≠ "java/lang/invoke/VarHandle" ∧ (parseMethodDescriptor y.desc).map (fun d => d.parameters.length) = some As.length)
    (hdd : d' < d ∧ nL' ≤ 60) (hst : st0 = As.reverse ++ st) (hw : (st.map fun v => v.category).sum ≤ 8) (kk : J (zup K) (pc + 3) L (.int ra :: st) Sa) : J K pc L st0 S := by
  subst hst
  obtain ⟨⟨p, l, e, R, s⟩, ⟨m, args, below, meth, c⟩, ⟨D, ad, cy⟩, ⟨Q, nc, ns⟩⟩ := K
  obtain ⟨hx, hb, hown, hml, hR, hr, hlk, hts, hKK, hinj, hzX⟩ := hK
  intro H locs ls hP hS hl'
  obtain ⟨hz1, hz2, hz3⟩ := hz
  have hz2 : nc + 1 ≤ R.cells := hz2
  have hz3 : ns + 6 ≤ R.slots := hz3
  have cw : vx_CSW R s args own index y code' nL' rt' hh (.codeWith y code' nL' rt' hh :: zT) (zrx d') 1 6 As.length := by
    refine vx_cwSW As.length hts ?_ rfl rfl rfl hy ⟨by show d' + 1 ≤ R.frames; omega, by show 8 + (nL' + 11) + 100 * d' ≤ R.locals; omega⟩
    intro w hw
    simp only [va_wsS, List.mem_append, List.mem_cons, List.not_mem_nil, or_false] at hw
    rcases hw with (rfl | rfl | rfl) | rfl | hw
    · exact zT_good _ w1
    · exact zT_good _ w2
    · exact zT_good _ w4
    · exact zT_good _ w5
    · exact zT_good _ hw
  intro T0 hT0 X
  have run := vx_runSW (e := e) (below := below) (meth := meth) (locs := locs) (cells := nc) (slots := ns) (As := As.map (mv ad)) (rest := st.map (mv ad)) (g := F0 m pc ls ((As.reverse ++ st).map (mv ad))) (nL := nL) ⟨hx, hb, hml, hown, hts⟩ (n := As.length) (hM l D ad cy hz1 hinj) cw
    ⟨fun a U g mk q => ⟨q.1, q.2.1, va_K.moved (u := U) (U := U.calling g mk a) (Vm.Alike.refl U.vm) q.2.2.1, zX.same (u := U) (U := U.calling g mk a) rfl q.2.2.2⟩, fun U hU hW => ⟨rfl, by rw [hU]; exact hP, va_K.moved hW.alike hKK, by rw [hU]; exact (hzX.kept hS.2.1).warm hW⟩⟩
    rfl (by simp) (by rw [← hml]; exact hl'.1) (by simp) (by have e := lv_room (m := m) (pc := pc) (ls := ls) (rest := (As.reverse ++ st).map (mv ad)) (st := st.map (mv ad)) (by rw [zcat]; exact hw); exact e) hd ⟨hz2, hz3⟩ T0 hT0 X
  obtain ⟨v, st₀, t, T', L1, h0, X', hL1, e1, e2, ⟨hv, hPt, hF⟩, go⟩ := run
  cases hv
  have hS1 : va_S (zA ad) s.heap T'.heap (locs ++ L1) := by
    refine ⟨?_, fun q h1 h2 => ?_, fun z hz => ?_⟩
    · rw [e1]; exact Nat.le_trans hS.1 (by rw [← h0]; exact hF.1)
    · rw [e1, hF.2 q (by rw [h0]; exact Nat.lt_of_lt_of_le h1 hS.1) h2, h0]; exact hS.2.1 q h1 h2
    · rcases List.mem_append.mp hz with h | h
      · exact hS.2.2 z h
      · exact hL1 z h
  obtain ⟨t2, a1, b1⟩ := kk T'.heap (locs ++ L1) ls (by rw [e1]; exact hPt) hS1 hl' T' rfl X'
  exact ⟨t2, go t2 a1, b1⟩
end JS
/-- class and reference answer alike, from every state in which they agree -/
def EQ1 (Rel : St → Prop) {α : Type} (f g : St → Option (α × St)) : Prop := ∀ S, Rel S → ∃ r S1 S2, f S = some (r, S1) ∧ g S1 = some (r, S2) ∧ Rel S2
/-- .. where the class may throw: the reference says so, else their answers are one -/
def EQX (Rel : St → Prop) {α : Type} (w : α → Int64) {β : Type} (w2 : β → Int64) (f : St → Option (Option α × St)) (g : St → Option (β × St)) : Prop := ∀ S, Rel S → ∃ (o : Option α) (S1 : St) (r : β) (S2 S3 : St), f S = some (o, S1) ∧ g (xS w o S1) = some (r, S2) ∧ f_X11_thrown S2 = some (xK o, S3) ∧ (o.isSome = true → gL S3 158 0 = w2 r) ∧ Rel S3
theorem hy_L_passage : yL_passage.cls ≠ "java/lang/invoke/MethodHandle" ∧ yL_passage.cls ≠ "java/lang/invoke/VarHandle" ∧ (parseMethodDescriptor yL_passage.desc).map (fun d => d.parameters.length) = some 4 := by decide +kernel
theorem mw_L_passage : Cond.codeWith yL_passage cL_passage 5 (some .int) [(0, 10, 13, 13)] ∈ zT := zT_in (zt5 (List.mem_of_getElem? (i := 127) rfl)) rfl
theorem hy_L_cavern : yL_cavern.cls ≠ "java/lang/invoke/MethodHandle" ∧ yL_cavern.cls ≠ "java/lang/invoke/VarHandle" ∧ (parseMethodDescriptor yL_cavern.desc).map (fun d => d.parameters.length) = some 4 := by decide +kernel
theorem mw_L_cavern : Cond.codeWith yL_cavern cL_cavern 5 (some .int) [(0, 10, 13, 13)] ∈ zT := zT_in (zt5 (List.mem_of_getElem? (i := 196) rfl)) rfl
theorem hy_L_row : yL_row.cls ≠ "java/lang/invoke/MethodHandle" ∧ yL_row.cls ≠ "java/lang/invoke/VarHandle" ∧ (parseMethodDescriptor yL_row.desc).map (fun d => d.parameters.length) = some 3 := by decide +kernel
theorem mw_L_row : Cond.codeWith yL_row cL_row 4 (some .int) [(0, 8, 11, 13)] ∈ zT := zT_in (zt5 (List.mem_of_getElem? (i := 204) rfl)) rfl
theorem lg_self (x : Int64) : lg_cmp x x = 0 := by unfold lg_cmp; rw [if_neg (by simp), if_pos rfl]
theorem law_c0 {Rel : St → Prop} (hE_sign : ∀ a1 : Int32, EQ1 Rel (f_X10_sign a1) (f_X11_sign a1)) {K : CT} {N : Nat} {xs : Nat → Int32} (hK : KO K cL_law RL 8 200 (some .boolean)) (hz : zroom K) (hsc : zSc K N xs) {i : Nat} (hi : i + 6 ≤ N) (hN : N ≤ 3072) {S : St} (hRel : Rel S) {vv : Int32} (hv0 : vv = (0 : Int32))
    (nextI : ∀ (nc' ns' : Nat) (S' : St), K.2.2.2.2.1 ≤ nc' → K.2.2.2.2.2 ≤ ns' → Rel S' → nc' ≤ K.2.2.2.2.1 + 1 → ns' ≤ K.2.2.2.2.2 + 6 → J (K.1, K.2.1, K.2.2.1, K.2.2.2.1, nc', ns') 1595 [(0, .ref 2000), (1, .ref 0), (2, .ref 122), (3, .ref 158), (4, .int (nI i))] [] S') : J K 40 [(0, .ref 2000), (1, .ref 0), (2, .ref 122), (3, .ref 158), (4, .int (nI i))] [.int vv] S := by
  have hin1 : vp_in (nI i + (1 : Int32)) N := by have q := vp_in_nI (n := i + 1) (N := N) (by omega) (by omega); rwa [show nI (i + 1) = nI i + (1 : Int32) from (nI_add i 1).symm] at q
  refine j_tabC hK (0 : Int32) 244 dL_law_40 hv0 (by decide) rfl (by decide) ?_
  refine j_aload_n hK dL_law_244 1 rfl rfl ?_
  refine j_aload_n hK dL_law_245 0 rfl rfl ?_
  refine j_iload hK dL_law_246 4 rfl ?_
  refine j_iconst hK (1 : Int32) dL_law_248 ic_1 ?_
  refine j_iadd hK dL_law_249 ?_
  refine j_sld hK hsc dL_law_250 hin1 ?_
  obtain ⟨r, S1, S2, h1, h2, hRel2⟩ := hE_sign (xs (nI i + (1 : Int32)).toNatClampNeg) S hRel
  refine k_callVi hK (c_X10_sign h1) dL_law_251 zclX10 zo_0 ml_L_26 mi_X10_sign mx_X10_sign in_X10 mc_X10_sign hy_X10_sign ⟨by decide, by decide⟩ rfl (Nat.le_of_ble_eq_true rfl) ?_
  refine j_aload_n hK dL_law_254 2 rfl rfl ?_
  refine j_aload_n hK dL_law_255 0 rfl rfl ?_
  refine j_iload hK dL_law_256 4 rfl ?_
  refine j_iconst hK (1 : Int32) dL_law_258 ic_1 ?_
  refine j_iadd hK dL_law_259 ?_
  refine j_sld hK hsc dL_law_260 hin1 ?_
  refine k_callVi hK (c_X11_sign h2) dL_law_261 zclX11 zo_122 ml_L_30 mi_X11_sign mx_X11_sign in_X11 mc_X11_sign hy_X11_sign ⟨by decide, by decide⟩ rfl (Nat.le_of_ble_eq_true rfl) ?_
  refine j_icmp_eq hK 1595 dL_law_264 (by decide) (fun _ => ?_) (fun hc => absurd rfl hc)
  exact nextI _ _ S2 (Nat.le_refl _) (Nat.le_refl _) hRel2 (Nat.le_succ _) (Nat.le_add_right _ _)
theorem law_c1 {Rel : St → Prop} (hE_end : ∀ a1 : Int32, EQ1 Rel (f_X10_end a1) (f_X11_end a1)) {K : CT} {N : Nat} {xs : Nat → Int32} (hK : KO K cL_law RL 8 200 (some .boolean)) (hz : zroom K) (hsc : zSc K N xs) {i : Nat} (hi : i + 6 ≤ N) (hN : N ≤ 3072) {S : St} (hRel : Rel S) {vv : Int32} (hv1 : vv = (1 : Int32))
    (nextI : ∀ (nc' ns' : Nat) (S' : St), K.2.2.2.2.1 ≤ nc' → K.2.2.2.2.2 ≤ ns' → Rel S' → nc' ≤ K.2.2.2.2.1 + 1 → ns' ≤ K.2.2.2.2.2 + 6 → J (K.1, K.2.1, K.2.2.1, K.2.2.2.1, nc', ns') 1595 [(0, .ref 2000), (1, .ref 0), (2, .ref 122), (3, .ref 158), (4, .int (nI i))] [] S') : J K 40 [(0, .ref 2000), (1, .ref 0), (2, .ref 122), (3, .ref 158), (4, .int (nI i))] [.int vv] S := by
  have hin1 : vp_in (nI i + (1 : Int32)) N := by have q := vp_in_nI (n := i + 1) (N := N) (by omega) (by omega); rwa [show nI (i + 1) = nI i + (1 : Int32) from (nI_add i 1).symm] at q
  refine j_tabC hK (1 : Int32) 269 dL_law_40 hv1 (by decide) rfl (by decide) ?_
  refine j_aload_n hK dL_law_269 1 rfl rfl ?_
  refine j_aload_n hK dL_law_270 0 rfl rfl ?_
  refine j_iload hK dL_law_271 4 rfl ?_
  refine j_iconst hK (1 : Int32) dL_law_273 ic_1 ?_
  refine j_iadd hK dL_law_274 ?_
  refine j_sld hK hsc dL_law_275 hin1 ?_
  obtain ⟨r, S1, S2, h1, h2, hRel2⟩ := hE_end (xs (nI i + (1 : Int32)).toNatClampNeg) S hRel
  refine k_callVi hK (c_X10_end h1) dL_law_276 zclX10 zo_0 ml_L_31 mi_X10_end mx_X10_end in_X10 mc_X10_end hy_X10_end ⟨by decide, by decide⟩ rfl (Nat.le_of_ble_eq_true rfl) ?_
  refine j_aload_n hK dL_law_279 2 rfl rfl ?_
  refine j_aload_n hK dL_law_280 0 rfl rfl ?_
  refine j_iload hK dL_law_281 4 rfl ?_
  refine j_iconst hK (1 : Int32) dL_law_283 ic_1 ?_
  refine j_iadd hK dL_law_284 ?_
  refine j_sld hK hsc dL_law_285 hin1 ?_
  refine k_callVi hK (c_X11_end h2) dL_law_286 zclX11 zo_122 ml_L_35 mi_X11_end mx_X11_end in_X11 mc_X11_end hy_X11_end ⟨by decide, by decide⟩ rfl (Nat.le_of_ble_eq_true rfl) ?_
  refine j_icmp_eq hK 1595 dL_law_289 (by decide) (fun _ => ?_) (fun hc => absurd rfl hc)
  exact nextI _ _ S2 (Nat.le_refl _) (Nat.le_refl _) hRel2 (Nat.le_succ _) (Nat.le_add_right _ _)
theorem law_c2 {Rel : St → Prop} (hE_passages : EQ1 Rel (f_X10_passages) (f_X11_passages)) {K : CT} {N : Nat} {xs : Nat → Int32} (hK : KO K cL_law RL 8 200 (some .boolean)) (hz : zroom K) (hsc : zSc K N xs) {i : Nat} (hi : i + 6 ≤ N) (hN : N ≤ 3072) {S : St} (hRel : Rel S) {vv : Int32} (hv2 : vv = (2 : Int32))
    (nextI : ∀ (nc' ns' : Nat) (S' : St), K.2.2.2.2.1 ≤ nc' → K.2.2.2.2.2 ≤ ns' → Rel S' → nc' ≤ K.2.2.2.2.1 + 1 → ns' ≤ K.2.2.2.2.2 + 6 → J (K.1, K.2.1, K.2.2.1, K.2.2.2.1, nc', ns') 1595 [(0, .ref 2000), (1, .ref 0), (2, .ref 122), (3, .ref 158), (4, .int (nI i))] [] S') : J K 40 [(0, .ref 2000), (1, .ref 0), (2, .ref 122), (3, .ref 158), (4, .int (nI i))] [.int vv] S := by
  refine j_tabC hK (2 : Int32) 294 dL_law_40 hv2 (by decide) rfl (by decide) ?_
  refine j_aload_n hK dL_law_294 1 rfl rfl ?_
  obtain ⟨r, S1, S2, h1, h2, hRel2⟩ := hE_passages S hRel
  refine k_callVi hK (c_X10_passages h1) dL_law_295 zclX10 zo_0 ml_L_36 mi_X10_passages mx_X10_passages in_X10 mc_X10_passages hy_X10_passages ⟨by decide, by decide⟩ rfl (Nat.le_of_ble_eq_true rfl) ?_
  refine j_aload_n hK dL_law_298 2 rfl rfl ?_
  refine k_callVi hK (c_X11_passages h2) dL_law_299 zclX11 zo_122 ml_L_40 mi_X11_passages mx_X11_passages in_X11 mc_X11_passages hy_X11_passages ⟨by decide, by decide⟩ rfl (Nat.le_of_ble_eq_true rfl) ?_
  refine j_icmp_eq hK 1595 dL_law_302 (by decide) (fun _ => ?_) (fun hc => absurd rfl hc)
  exact nextI _ _ S2 (Nat.le_refl _) (Nat.le_refl _) hRel2 (Nat.le_succ _) (Nat.le_add_right _ _)
theorem law_c3 {Rel : St → Prop} (hE_rule : EQ1 Rel (f_X10_rule) (f_X11_rule)) {K : CT} {N : Nat} {xs : Nat → Int32} (hK : KO K cL_law RL 8 200 (some .boolean)) (hz : zroom K) (hsc : zSc K N xs) {i : Nat} (hi : i + 6 ≤ N) (hN : N ≤ 3072) {S : St} (hRel : Rel S) {vv : Int32} (hv3 : vv = (3 : Int32))
    (nextI : ∀ (nc' ns' : Nat) (S' : St), K.2.2.2.2.1 ≤ nc' → K.2.2.2.2.2 ≤ ns' → Rel S' → nc' ≤ K.2.2.2.2.1 + 1 → ns' ≤ K.2.2.2.2.2 + 6 → J (K.1, K.2.1, K.2.2.1, K.2.2.2.1, nc', ns') 1595 [(0, .ref 2000), (1, .ref 0), (2, .ref 122), (3, .ref 158), (4, .int (nI i))] [] S') : J K 40 [(0, .ref 2000), (1, .ref 0), (2, .ref 122), (3, .ref 158), (4, .int (nI i))] [.int vv] S := by
  refine j_tabC hK (3 : Int32) 307 dL_law_40 hv3 (by decide) rfl (by decide) ?_
  refine j_aload_n hK dL_law_307 1 rfl rfl ?_
  obtain ⟨r, S1, S2, h1, h2, hRel2⟩ := hE_rule S hRel
  refine k_callVi hK (c_X10_rule h1) dL_law_308 zclX10 zo_0 ml_L_41 mi_X10_rule mx_X10_rule in_X10 mc_X10_rule hy_X10_rule ⟨by decide, by decide⟩ rfl (Nat.le_of_ble_eq_true rfl) ?_
  refine j_aload_n hK dL_law_311 2 rfl rfl ?_
  refine k_callVi hK (c_X11_rule h2) dL_law_312 zclX11 zo_122 ml_L_44 mi_X11_rule mx_X11_rule in_X11 mc_X11_rule hy_X11_rule ⟨by decide, by decide⟩ rfl (Nat.le_of_ble_eq_true rfl) ?_
  refine j_icmp_eq hK 1595 dL_law_315 (by decide) (fun _ => ?_) (fun hc => absurd rfl hc)
  exact nextI _ _ S2 (Nat.le_refl _) (Nat.le_refl _) hRel2 (Nat.le_succ _) (Nat.le_add_right _ _)
theorem law_c4 {Rel : St → Prop} (hE_passage : ∀ a1 a2 : Int32, EQX Rel (fun v : Int32 => v.toInt64) (fun v : Int32 => v.toInt64) (f_X10_passage a1 a2) (f_X11_passage a1 a2)) {K : CT} {N : Nat} {xs : Nat → Int32} (hK : KO K cL_law RL 8 200 (some .boolean)) (hz : zroom K) (hsc : zSc K N xs) {i : Nat} (hi : i + 6 ≤ N) (hN : N ≤ 3072) {S : St} (hRel : Rel S) {vv : Int32} (hv4 : vv = (4 : Int32))
    (nextI : ∀ (nc' ns' : Nat) (S' : St), K.2.2.2.2.1 ≤ nc' → K.2.2.2.2.2 ≤ ns' → Rel S' → nc' ≤ K.2.2.2.2.1 + 1 → ns' ≤ K.2.2.2.2.2 + 6 → J (K.1, K.2.1, K.2.2.1, K.2.2.2.1, nc', ns') 1595 [(0, .ref 2000), (1, .ref 0), (2, .ref 122), (3, .ref 158), (4, .int (nI i))] [] S') : J K 40 [(0, .ref 2000), (1, .ref 0), (2, .ref 122), (3, .ref 158), (4, .int (nI i))] [.int vv] S := by
  have hin1 : vp_in (nI i + (1 : Int32)) N := by have q := vp_in_nI (n := i + 1) (N := N) (by omega) (by omega); rwa [show nI (i + 1) = nI i + (1 : Int32) from (nI_add i 1).symm] at q
  have hin2 : vp_in (nI i + (2 : Int32)) N := by have q := vp_in_nI (n := i + 2) (N := N) (by omega) (by omega); rwa [show nI (i + 2) = nI i + (2 : Int32) from (nI_add i 2).symm] at q
  refine j_tabC hK (4 : Int32) 320 dL_law_40 hv4 (by decide) rfl (by decide) ?_
  refine j_aload_n hK dL_law_320 1 rfl rfl ?_
  refine j_aload_n hK dL_law_321 0 rfl rfl ?_
  refine j_iload hK dL_law_322 4 rfl ?_
  refine j_iconst hK (1 : Int32) dL_law_324 ic_1 ?_
  refine j_iadd hK dL_law_325 ?_
  refine j_sld hK hsc dL_law_326 hin1 ?_
  refine j_aload_n hK dL_law_327 0 rfl rfl ?_
  refine j_iload hK dL_law_328 4 rfl ?_
  refine j_iconst hK (2 : Int32) dL_law_330 ic_2 ?_
  refine j_iadd hK dL_law_331 ?_
  refine j_sld hK hsc dL_law_332 hin2 ?_
  refine j_aload_n hK dL_law_333 3 rfl rfl ?_
  obtain ⟨o, S1, r, S2, S3, h1, h2, h3, h4, hRel3⟩ := hE_passage (xs (nI i + (1 : Int32)).toNatClampNeg) (xs (nI i + (2 : Int32)).toNatClampNeg) S hRel
  refine j_callH hK (c_L_passage h1) hz dL_law_334 ml_L_45 ms_L_passage in_L mw_L_passage hy_L_passage ⟨by decide, by decide⟩ rfl (Nat.le_of_ble_eq_true rfl) ?_
  have hK' := KO_up hK hz
  have hsc' := zSc_up hsc
  obtain ⟨ko, hko⟩ : ∃ k, xK o = k := ⟨_, rfl⟩
  rw [hko] at h3 ⊢
  refine j_istore hK' (L' := [(5, .int ko), (0, .ref 2000), (1, .ref 0), (2, .ref 122), (3, .ref 158), (4, .int (nI i))]) dL_law_337 (by decide) rfl ?_
  refine j_aload_n hK' dL_law_339 3 rfl rfl ?_
  refine j_aload_n hK' dL_law_340 1 rfl rfl ?_
  refine j_iload hK' dL_law_341 5 rfl ?_
  refine j_iconst hK' (1 : Int32) dL_law_343 ic_1 ?_
  refine j_iadd hK' dL_law_344 ?_
  refine j_sld hK' hsc' dL_law_345 hin1 ?_
  refine j_aload_n hK' dL_law_346 1 rfl rfl ?_
  refine j_iload hK' dL_law_347 5 rfl ?_
  refine j_iconst hK' (2 : Int32) dL_law_349 ic_2 ?_
  refine j_iadd hK' dL_law_350 ?_
  refine j_sld hK' hsc' dL_law_351 hin2 ?_
  refine k_callVi hK' (c_X11_passage h2) dL_law_352 zclX11 zo_122 ml_L_50 mi_X11_passage mx_X11_passage in_X11 mc_X11_passage hy_X11_passage ⟨by decide, by decide⟩ rfl (Nat.le_of_ble_eq_true rfl) ?_
  refine j_istore hK' (L' := [(6, .int r), (5, .int ko), (0, .ref 2000), (1, .ref 0), (2, .ref 122), (3, .ref 158), (4, .int (nI i))]) dL_law_355 (by decide) rfl ?_
  refine j_aload_n hK' dL_law_357 4 rfl rfl ?_
  refine k_callVi hK' (c_X11_thrown h3) dL_law_358 zclX11 zo_122 ml_L_51 mi_X11_thrown mx_X11_thrown in_X11 mc_X11_thrown hy_X11_thrown ⟨by decide, by decide⟩ rfl (Nat.le_of_ble_eq_true rfl) ?_
  refine j_iload hK' dL_law_361 1 rfl ?_
  refine j_icmp_eq hK' 368 dL_law_363 (by decide) (fun _ => ?_) (fun hc => absurd rfl hc)
  refine j_iload hK' dL_law_368 1 rfl ?_
  refine j_if_ne hK' 385 dL_law_370 (by decide) (fun hc => ?_) (fun hc0 => ?_)
  · refine j_goto hK' 1595 dL_law_385 (by decide) ?_
    refine j_sub [2, 3, 4, 5, 6] rfl ?_
    exact nextI _ _ S3 (Nat.le_succ _) (Nat.le_add_right _ _) hRel3 (Nat.le_refl _) (Nat.le_refl _)
  · have hc : ¬ ¬ ko = 0 := fun h => h hc0
    refine j_aload_n hK' dL_law_373 5 rfl rfl ?_
    refine j_iconst hK' (0 : Int32) dL_law_374 ic_0 ?_
    refine k_lald hK' dL_law_375 zb_158 (by decide) tn_0 ?_
    refine j_iload hK' dL_law_376 0 rfl ?_
    refine j_i2l hK' dL_law_378 ?_
    refine j_lcmp hK' dL_law_379 ?_
    have hk4 : lg_cmp (gL S3 158 0) r.toInt64 = 0 := by
      have : o.isSome = true := by cases o with | none => (exfalso; rw [← hko] at hc0; exact absurd hc0 (by decide)) | some _ => rfl
      rw [h4 this]; exact lg_self _
    refine j_if_eq hK' 385 dL_law_380 (by decide) (fun _ => ?_) (fun hc => absurd hk4 hc)
    refine j_goto hK' 1595 dL_law_385 (by decide) ?_
    refine j_sub [2, 3, 4, 5, 6] rfl ?_
    exact nextI _ _ S3 (Nat.le_succ _) (Nat.le_add_right _ _) hRel3 (Nat.le_refl _) (Nat.le_refl _)
theorem law_c5 {Rel : St → Prop} (hE_cavern : ∀ a1 a2 : Int32, EQX Rel (fun v : Int32 => v.toInt64) (fun v : Int32 => v.toInt64) (f_X10_cavern a1 a2) (f_X11_cavern a1 a2)) {K : CT} {N : Nat} {xs : Nat → Int32} (hK : KO K cL_law RL 8 200 (some .boolean)) (hz : zroom K) (hsc : zSc K N xs) {i : Nat} (hi : i + 6 ≤ N) (hN : N ≤ 3072) {S : St} (hRel : Rel S) {vv : Int32} (hv5 : vv = (5 : Int32))
    (nextI : ∀ (nc' ns' : Nat) (S' : St), K.2.2.2.2.1 ≤ nc' → K.2.2.2.2.2 ≤ ns' → Rel S' → nc' ≤ K.2.2.2.2.1 + 1 → ns' ≤ K.2.2.2.2.2 + 6 → J (K.1, K.2.1, K.2.2.1, K.2.2.2.1, nc', ns') 1595 [(0, .ref 2000), (1, .ref 0), (2, .ref 122), (3, .ref 158), (4, .int (nI i))] [] S') : J K 40 [(0, .ref 2000), (1, .ref 0), (2, .ref 122), (3, .ref 158), (4, .int (nI i))] [.int vv] S := by
  have hin1 : vp_in (nI i + (1 : Int32)) N := by have q := vp_in_nI (n := i + 1) (N := N) (by omega) (by omega); rwa [show nI (i + 1) = nI i + (1 : Int32) from (nI_add i 1).symm] at q
  have hin2 : vp_in (nI i + (2 : Int32)) N := by have q := vp_in_nI (n := i + 2) (N := N) (by omega) (by omega); rwa [show nI (i + 2) = nI i + (2 : Int32) from (nI_add i 2).symm] at q
  refine j_tabC hK (5 : Int32) 388 dL_law_40 hv5 (by decide) rfl (by decide) ?_
  refine j_aload_n hK dL_law_388 1 rfl rfl ?_
  refine j_aload_n hK dL_law_389 0 rfl rfl ?_
  refine j_iload hK dL_law_390 4 rfl ?_
  refine j_iconst hK (1 : Int32) dL_law_392 ic_1 ?_
  refine j_iadd hK dL_law_393 ?_
  refine j_sld hK hsc dL_law_394 hin1 ?_
  refine j_aload_n hK dL_law_395 0 rfl rfl ?_
  refine j_iload hK dL_law_396 4 rfl ?_
  refine j_iconst hK (2 : Int32) dL_law_398 ic_2 ?_
  refine j_iadd hK dL_law_399 ?_
  refine j_sld hK hsc dL_law_400 hin2 ?_
  refine j_aload_n hK dL_law_401 3 rfl rfl ?_
  obtain ⟨o, S1, r, S2, S3, h1, h2, h3, h4, hRel3⟩ := hE_cavern (xs (nI i + (1 : Int32)).toNatClampNeg) (xs (nI i + (2 : Int32)).toNatClampNeg) S hRel
  refine j_callH hK (c_L_cavern h1) hz dL_law_402 ml_L_54 ms_L_cavern in_L mw_L_cavern hy_L_cavern ⟨by decide, by decide⟩ rfl (Nat.le_of_ble_eq_true rfl) ?_
  have hK' := KO_up hK hz
  have hsc' := zSc_up hsc
  obtain ⟨ko, hko⟩ : ∃ k, xK o = k := ⟨_, rfl⟩
  rw [hko] at h3 ⊢
  refine j_istore hK' (L' := [(5, .int ko), (0, .ref 2000), (1, .ref 0), (2, .ref 122), (3, .ref 158), (4, .int (nI i))]) dL_law_405 (by decide) rfl ?_
  refine j_aload_n hK' dL_law_407 3 rfl rfl ?_
  refine j_aload_n hK' dL_law_408 1 rfl rfl ?_
  refine j_iload hK' dL_law_409 5 rfl ?_
  refine j_iconst hK' (1 : Int32) dL_law_411 ic_1 ?_
  refine j_iadd hK' dL_law_412 ?_
  refine j_sld hK' hsc' dL_law_413 hin1 ?_
  refine j_aload_n hK' dL_law_414 1 rfl rfl ?_
  refine j_iload hK' dL_law_415 5 rfl ?_
  refine j_iconst hK' (2 : Int32) dL_law_417 ic_2 ?_
  refine j_iadd hK' dL_law_418 ?_
  refine j_sld hK' hsc' dL_law_419 hin2 ?_
  refine k_callVi hK' (c_X11_cavern h2) dL_law_420 zclX11 zo_122 ml_L_56 mi_X11_cavern mx_X11_cavern in_X11 mc_X11_cavern hy_X11_cavern ⟨by decide, by decide⟩ rfl (Nat.le_of_ble_eq_true rfl) ?_
  refine j_istore hK' (L' := [(6, .int r), (5, .int ko), (0, .ref 2000), (1, .ref 0), (2, .ref 122), (3, .ref 158), (4, .int (nI i))]) dL_law_423 (by decide) rfl ?_
  refine j_aload_n hK' dL_law_425 4 rfl rfl ?_
  refine k_callVi hK' (c_X11_thrown h3) dL_law_426 zclX11 zo_122 ml_L_51 mi_X11_thrown mx_X11_thrown in_X11 mc_X11_thrown hy_X11_thrown ⟨by decide, by decide⟩ rfl (Nat.le_of_ble_eq_true rfl) ?_
  refine j_iload hK' dL_law_429 1 rfl ?_
  refine j_icmp_eq hK' 436 dL_law_431 (by decide) (fun _ => ?_) (fun hc => absurd rfl hc)
  refine j_iload hK' dL_law_436 1 rfl ?_
  refine j_if_ne hK' 453 dL_law_438 (by decide) (fun hc => ?_) (fun hc0 => ?_)
  · refine j_goto hK' 1595 dL_law_453 (by decide) ?_
    refine j_sub [2, 3, 4, 5, 6] rfl ?_
    exact nextI _ _ S3 (Nat.le_succ _) (Nat.le_add_right _ _) hRel3 (Nat.le_refl _) (Nat.le_refl _)
  · have hc : ¬ ¬ ko = 0 := fun h => h hc0
    refine j_aload_n hK' dL_law_441 5 rfl rfl ?_
    refine j_iconst hK' (0 : Int32) dL_law_442 ic_0 ?_
    refine k_lald hK' dL_law_443 zb_158 (by decide) tn_0 ?_
    refine j_iload hK' dL_law_444 0 rfl ?_
    refine j_i2l hK' dL_law_446 ?_
    refine j_lcmp hK' dL_law_447 ?_
    have hk4 : lg_cmp (gL S3 158 0) r.toInt64 = 0 := by
      have : o.isSome = true := by cases o with | none => (exfalso; rw [← hko] at hc0; exact absurd hc0 (by decide)) | some _ => rfl
      rw [h4 this]; exact lg_self _
    refine j_if_eq hK' 453 dL_law_448 (by decide) (fun _ => ?_) (fun hc => absurd hk4 hc)
    refine j_goto hK' 1595 dL_law_453 (by decide) ?_
    refine j_sub [2, 3, 4, 5, 6] rfl ?_
    exact nextI _ _ S3 (Nat.le_succ _) (Nat.le_add_right _ _) hRel3 (Nat.le_refl _) (Nat.le_refl _)
theorem law_c6 {Rel : St → Prop} (hE_sheet : ∀ a1 a2 a3 a4 : Int32, EQ1 Rel (f_X10_sheet a1 a2 a3 a4) (f_X11_sheet a1 a2 a3 a4)) {K : CT} {N : Nat} {xs : Nat → Int32} (hK : KO K cL_law RL 8 200 (some .boolean)) (hz : zroom K) (hsc : zSc K N xs) {i : Nat} (hi : i + 6 ≤ N) (hN : N ≤ 3072) {S : St} (hRel : Rel S) {vv : Int32} (hv6 : vv = (6 : Int32))
    (nextI : ∀ (nc' ns' : Nat) (S' : St), K.2.2.2.2.1 ≤ nc' → K.2.2.2.2.2 ≤ ns' → Rel S' → nc' ≤ K.2.2.2.2.1 + 1 → ns' ≤ K.2.2.2.2.2 + 6 → J (K.1, K.2.1, K.2.2.1, K.2.2.2.1, nc', ns') 1595 [(0, .ref 2000), (1, .ref 0), (2, .ref 122), (3, .ref 158), (4, .int (nI i))] [] S') : J K 40 [(0, .ref 2000), (1, .ref 0), (2, .ref 122), (3, .ref 158), (4, .int (nI i))] [.int vv] S := by
  have hin1 : vp_in (nI i + (1 : Int32)) N := by have q := vp_in_nI (n := i + 1) (N := N) (by omega) (by omega); rwa [show nI (i + 1) = nI i + (1 : Int32) from (nI_add i 1).symm] at q
  have hin2 : vp_in (nI i + (2 : Int32)) N := by have q := vp_in_nI (n := i + 2) (N := N) (by omega) (by omega); rwa [show nI (i + 2) = nI i + (2 : Int32) from (nI_add i 2).symm] at q
  have hin3 : vp_in (nI i + (3 : Int32)) N := by have q := vp_in_nI (n := i + 3) (N := N) (by omega) (by omega); rwa [show nI (i + 3) = nI i + (3 : Int32) from (nI_add i 3).symm] at q
  have hin4 : vp_in (nI i + (4 : Int32)) N := by have q := vp_in_nI (n := i + 4) (N := N) (by omega) (by omega); rwa [show nI (i + 4) = nI i + (4 : Int32) from (nI_add i 4).symm] at q
  refine j_tabC hK (6 : Int32) 456 dL_law_40 hv6 (by decide) rfl (by decide) ?_
  refine j_aload_n hK dL_law_456 1 rfl rfl ?_
  refine j_aload_n hK dL_law_457 0 rfl rfl ?_
  refine j_iload hK dL_law_458 4 rfl ?_
  refine j_iconst hK (1 : Int32) dL_law_460 ic_1 ?_
  refine j_iadd hK dL_law_461 ?_
  refine j_sld hK hsc dL_law_462 hin1 ?_
  refine j_aload_n hK dL_law_463 0 rfl rfl ?_
  refine j_iload hK dL_law_464 4 rfl ?_
  refine j_iconst hK (2 : Int32) dL_law_466 ic_2 ?_
  refine j_iadd hK dL_law_467 ?_
  refine j_sld hK hsc dL_law_468 hin2 ?_
  refine j_aload_n hK dL_law_469 0 rfl rfl ?_
  refine j_iload hK dL_law_470 4 rfl ?_
  refine j_iconst hK (3 : Int32) dL_law_472 ic_3 ?_
  refine j_iadd hK dL_law_473 ?_
  refine j_sld hK hsc dL_law_474 hin3 ?_
  refine j_aload_n hK dL_law_475 0 rfl rfl ?_
  refine j_iload hK dL_law_476 4 rfl ?_
  refine j_iconst hK (4 : Int32) dL_law_478 ic_4 ?_
  refine j_iadd hK dL_law_479 ?_
  refine j_sld hK hsc dL_law_480 hin4 ?_
  obtain ⟨r, S1, S2, h1, h2, hRel2⟩ := hE_sheet (xs (nI i + (1 : Int32)).toNatClampNeg) (xs (nI i + (2 : Int32)).toNatClampNeg) (xs (nI i + (3 : Int32)).toNatClampNeg) (xs (nI i + (4 : Int32)).toNatClampNeg) S hRel
  refine k_callVi hK (c_X10_sheet h1) dL_law_481 zclX10 zo_0 ml_L_57 mi_X10_sheet mx_X10_sheet in_X10 mc_X10_sheet hy_X10_sheet ⟨by decide, by decide⟩ rfl (Nat.le_of_ble_eq_true rfl) ?_
  refine j_aload_n hK dL_law_484 2 rfl rfl ?_
  refine j_aload_n hK dL_law_485 0 rfl rfl ?_
  refine j_iload hK dL_law_486 4 rfl ?_
  refine j_iconst hK (1 : Int32) dL_law_488 ic_1 ?_
  refine j_iadd hK dL_law_489 ?_
  refine j_sld hK hsc dL_law_490 hin1 ?_
  refine j_aload_n hK dL_law_491 0 rfl rfl ?_
  refine j_iload hK dL_law_492 4 rfl ?_
  refine j_iconst hK (2 : Int32) dL_law_494 ic_2 ?_
  refine j_iadd hK dL_law_495 ?_
  refine j_sld hK hsc dL_law_496 hin2 ?_
  refine j_aload_n hK dL_law_497 0 rfl rfl ?_
  refine j_iload hK dL_law_498 4 rfl ?_
  refine j_iconst hK (3 : Int32) dL_law_500 ic_3 ?_
  refine j_iadd hK dL_law_501 ?_
  refine j_sld hK hsc dL_law_502 hin3 ?_
  refine j_aload_n hK dL_law_503 0 rfl rfl ?_
  refine j_iload hK dL_law_504 4 rfl ?_
  refine j_iconst hK (4 : Int32) dL_law_506 ic_4 ?_
  refine j_iadd hK dL_law_507 ?_
  refine j_sld hK hsc dL_law_508 hin4 ?_
  refine k_callVi hK (c_X11_sheet h2) dL_law_509 zclX11 zo_122 ml_L_61 mi_X11_sheet mx_X11_sheet in_X11 mc_X11_sheet hy_X11_sheet ⟨by decide, by decide⟩ rfl (Nat.le_of_ble_eq_true rfl) ?_
  refine j_icmp_eq hK 1595 dL_law_512 (by decide) (fun _ => ?_) (fun hc => absurd rfl hc)
  exact nextI _ _ S2 (Nat.le_refl _) (Nat.le_refl _) hRel2 (Nat.le_succ _) (Nat.le_add_right _ _)
theorem law_c7 {Rel : St → Prop} (hE_calls : ∀ a1 a2 : Int32, EQ1 Rel (f_X10_calls a1 a2) (f_X11_calls a1 a2)) {K : CT} {N : Nat} {xs : Nat → Int32} (hK : KO K cL_law RL 8 200 (some .boolean)) (hz : zroom K) (hsc : zSc K N xs) {i : Nat} (hi : i + 6 ≤ N) (hN : N ≤ 3072) {S : St} (hRel : Rel S) {vv : Int32} (hv7 : vv = (7 : Int32))
    (nextI : ∀ (nc' ns' : Nat) (S' : St), K.2.2.2.2.1 ≤ nc' → K.2.2.2.2.2 ≤ ns' → Rel S' → nc' ≤ K.2.2.2.2.1 + 1 → ns' ≤ K.2.2.2.2.2 + 6 → J (K.1, K.2.1, K.2.2.1, K.2.2.2.1, nc', ns') 1595 [(0, .ref 2000), (1, .ref 0), (2, .ref 122), (3, .ref 158), (4, .int (nI i))] [] S') : J K 40 [(0, .ref 2000), (1, .ref 0), (2, .ref 122), (3, .ref 158), (4, .int (nI i))] [.int vv] S := by
  have hin1 : vp_in (nI i + (1 : Int32)) N := by have q := vp_in_nI (n := i + 1) (N := N) (by omega) (by omega); rwa [show nI (i + 1) = nI i + (1 : Int32) from (nI_add i 1).symm] at q
  have hin2 : vp_in (nI i + (2 : Int32)) N := by have q := vp_in_nI (n := i + 2) (N := N) (by omega) (by omega); rwa [show nI (i + 2) = nI i + (2 : Int32) from (nI_add i 2).symm] at q
  refine j_tabC hK (7 : Int32) 517 dL_law_40 hv7 (by decide) rfl (by decide) ?_
  refine j_aload_n hK dL_law_517 1 rfl rfl ?_
  refine j_aload_n hK dL_law_518 0 rfl rfl ?_
  refine j_iload hK dL_law_519 4 rfl ?_
  refine j_iconst hK (1 : Int32) dL_law_521 ic_1 ?_
  refine j_iadd hK dL_law_522 ?_
  refine j_sld hK hsc dL_law_523 hin1 ?_
  refine j_aload_n hK dL_law_524 0 rfl rfl ?_
  refine j_iload hK dL_law_525 4 rfl ?_
  refine j_iconst hK (2 : Int32) dL_law_527 ic_2 ?_
  refine j_iadd hK dL_law_528 ?_
  refine j_sld hK hsc dL_law_529 hin2 ?_
  obtain ⟨r, S1, S2, h1, h2, hRel2⟩ := hE_calls (xs (nI i + (1 : Int32)).toNatClampNeg) (xs (nI i + (2 : Int32)).toNatClampNeg) S hRel
  refine k_callVi hK (c_X10_calls h1) dL_law_530 zclX10 zo_0 ml_L_62 mi_X10_calls mx_X10_calls in_X10 mc_X10_calls hy_X10_calls ⟨by decide, by decide⟩ rfl (Nat.le_of_ble_eq_true rfl) ?_
  refine j_aload_n hK dL_law_533 2 rfl rfl ?_
  refine j_aload_n hK dL_law_534 0 rfl rfl ?_
  refine j_iload hK dL_law_535 4 rfl ?_
  refine j_iconst hK (1 : Int32) dL_law_537 ic_1 ?_
  refine j_iadd hK dL_law_538 ?_
  refine j_sld hK hsc dL_law_539 hin1 ?_
  refine j_aload_n hK dL_law_540 0 rfl rfl ?_
  refine j_iload hK dL_law_541 4 rfl ?_
  refine j_iconst hK (2 : Int32) dL_law_543 ic_2 ?_
  refine j_iadd hK dL_law_544 ?_
  refine j_sld hK hsc dL_law_545 hin2 ?_
  refine k_callVi hK (c_X11_calls h2) dL_law_546 zclX11 zo_122 ml_L_65 mi_X11_calls mx_X11_calls in_X11 mc_X11_calls hy_X11_calls ⟨by decide, by decide⟩ rfl (Nat.le_of_ble_eq_true rfl) ?_
  refine j_icmp_eq hK 1595 dL_law_549 (by decide) (fun _ => ?_) (fun hc => absurd rfl hc)
  exact nextI _ _ S2 (Nat.le_refl _) (Nat.le_refl _) hRel2 (Nat.le_succ _) (Nat.le_add_right _ _)
theorem law_c8 {Rel : St → Prop} (hE_hours : ∀ a1 : Int32, EQ1 Rel (f_X10_hours a1) (f_X11_hours a1)) {K : CT} {N : Nat} {xs : Nat → Int32} (hK : KO K cL_law RL 8 200 (some .boolean)) (hz : zroom K) (hsc : zSc K N xs) {i : Nat} (hi : i + 6 ≤ N) (hN : N ≤ 3072) {S : St} (hRel : Rel S) {vv : Int32} (hv8 : vv = (8 : Int32))
    (nextI : ∀ (nc' ns' : Nat) (S' : St), K.2.2.2.2.1 ≤ nc' → K.2.2.2.2.2 ≤ ns' → Rel S' → nc' ≤ K.2.2.2.2.1 + 1 → ns' ≤ K.2.2.2.2.2 + 6 → J (K.1, K.2.1, K.2.2.1, K.2.2.2.1, nc', ns') 1595 [(0, .ref 2000), (1, .ref 0), (2, .ref 122), (3, .ref 158), (4, .int (nI i))] [] S') : J K 40 [(0, .ref 2000), (1, .ref 0), (2, .ref 122), (3, .ref 158), (4, .int (nI i))] [.int vv] S := by
  have hin1 : vp_in (nI i + (1 : Int32)) N := by have q := vp_in_nI (n := i + 1) (N := N) (by omega) (by omega); rwa [show nI (i + 1) = nI i + (1 : Int32) from (nI_add i 1).symm] at q
  refine j_tabC hK (8 : Int32) 554 dL_law_40 hv8 (by decide) rfl (by decide) ?_
  refine j_aload_n hK dL_law_554 1 rfl rfl ?_
  refine j_aload_n hK dL_law_555 0 rfl rfl ?_
  refine j_iload hK dL_law_556 4 rfl ?_
  refine j_iconst hK (1 : Int32) dL_law_558 ic_1 ?_
  refine j_iadd hK dL_law_559 ?_
  refine j_sld hK hsc dL_law_560 hin1 ?_
  obtain ⟨r, S1, S2, h1, h2, hRel2⟩ := hE_hours (xs (nI i + (1 : Int32)).toNatClampNeg) S hRel
  refine k_callVi hK (c_X10_hours h1) dL_law_561 zclX10 zo_0 ml_L_66 mi_X10_hours mx_X10_hours in_X10 mc_X10_hours hy_X10_hours ⟨by decide, by decide⟩ rfl (Nat.le_of_ble_eq_true rfl) ?_
  refine j_aload_n hK dL_law_564 2 rfl rfl ?_
  refine j_aload_n hK dL_law_565 0 rfl rfl ?_
  refine j_iload hK dL_law_566 4 rfl ?_
  refine j_iconst hK (1 : Int32) dL_law_568 ic_1 ?_
  refine j_iadd hK dL_law_569 ?_
  refine j_sld hK hsc dL_law_570 hin1 ?_
  refine k_callVi hK (c_X11_hours h2) dL_law_571 zclX11 zo_122 ml_L_69 mi_X11_hours mx_X11_hours in_X11 mc_X11_hours hy_X11_hours ⟨by decide, by decide⟩ rfl (Nat.le_of_ble_eq_true rfl) ?_
  refine j_icmp_eq hK 1595 dL_law_574 (by decide) (fun _ => ?_) (fun hc => absurd rfl hc)
  exact nextI _ _ S2 (Nat.le_refl _) (Nat.le_refl _) hRel2 (Nat.le_succ _) (Nat.le_add_right _ _)
theorem law_c9 {Rel : St → Prop} (hE_falls : ∀ a1 : Int32, EQ1 Rel (f_X10_falls a1) (f_X11_falls a1)) {K : CT} {N : Nat} {xs : Nat → Int32} (hK : KO K cL_law RL 8 200 (some .boolean)) (hz : zroom K) (hsc : zSc K N xs) {i : Nat} (hi : i + 6 ≤ N) (hN : N ≤ 3072) {S : St} (hRel : Rel S) {vv : Int32} (hv9 : vv = (9 : Int32))
    (nextI : ∀ (nc' ns' : Nat) (S' : St), K.2.2.2.2.1 ≤ nc' → K.2.2.2.2.2 ≤ ns' → Rel S' → nc' ≤ K.2.2.2.2.1 + 1 → ns' ≤ K.2.2.2.2.2 + 6 → J (K.1, K.2.1, K.2.2.1, K.2.2.2.1, nc', ns') 1595 [(0, .ref 2000), (1, .ref 0), (2, .ref 122), (3, .ref 158), (4, .int (nI i))] [] S') : J K 40 [(0, .ref 2000), (1, .ref 0), (2, .ref 122), (3, .ref 158), (4, .int (nI i))] [.int vv] S := by
  have hin1 : vp_in (nI i + (1 : Int32)) N := by have q := vp_in_nI (n := i + 1) (N := N) (by omega) (by omega); rwa [show nI (i + 1) = nI i + (1 : Int32) from (nI_add i 1).symm] at q
  refine j_tabC hK (9 : Int32) 579 dL_law_40 hv9 (by decide) rfl (by decide) ?_
  refine j_aload_n hK dL_law_579 1 rfl rfl ?_
  refine j_aload_n hK dL_law_580 0 rfl rfl ?_
  refine j_iload hK dL_law_581 4 rfl ?_
  refine j_iconst hK (1 : Int32) dL_law_583 ic_1 ?_
  refine j_iadd hK dL_law_584 ?_
  refine j_sld hK hsc dL_law_585 hin1 ?_
  obtain ⟨r, S1, S2, h1, h2, hRel2⟩ := hE_falls (xs (nI i + (1 : Int32)).toNatClampNeg) S hRel
  refine k_callVi hK (c_X10_falls h1) dL_law_586 zclX10 zo_0 ml_L_70 mi_X10_falls mx_X10_falls in_X10 mc_X10_falls hy_X10_falls ⟨by decide, by decide⟩ rfl (Nat.le_of_ble_eq_true rfl) ?_
  refine j_aload_n hK dL_law_589 2 rfl rfl ?_
  refine j_aload_n hK dL_law_590 0 rfl rfl ?_
  refine j_iload hK dL_law_591 4 rfl ?_
  refine j_iconst hK (1 : Int32) dL_law_593 ic_1 ?_
  refine j_iadd hK dL_law_594 ?_
  refine j_sld hK hsc dL_law_595 hin1 ?_
  refine k_callVi hK (c_X11_falls h2) dL_law_596 zclX11 zo_122 ml_L_73 mi_X11_falls mx_X11_falls in_X11 mc_X11_falls hy_X11_falls ⟨by decide, by decide⟩ rfl (Nat.le_of_ble_eq_true rfl) ?_
  refine j_icmp_eq hK 1595 dL_law_599 (by decide) (fun _ => ?_) (fun hc => absurd rfl hc)
  exact nextI _ _ S2 (Nat.le_refl _) (Nat.le_refl _) hRel2 (Nat.le_succ _) (Nat.le_add_right _ _)
theorem law_c10 {Rel : St → Prop} (hE_digs : ∀ a1 a2 a3 : Int32, EQ1 Rel (f_X10_digs a1 a2 a3) (f_X11_digs a1 a2 a3)) {K : CT} {N : Nat} {xs : Nat → Int32} (hK : KO K cL_law RL 8 200 (some .boolean)) (hz : zroom K) (hsc : zSc K N xs) {i : Nat} (hi : i + 6 ≤ N) (hN : N ≤ 3072) {S : St} (hRel : Rel S) {vv : Int32} (hv10 : vv = (10 : Int32))
    (nextI : ∀ (nc' ns' : Nat) (S' : St), K.2.2.2.2.1 ≤ nc' → K.2.2.2.2.2 ≤ ns' → Rel S' → nc' ≤ K.2.2.2.2.1 + 1 → ns' ≤ K.2.2.2.2.2 + 6 → J (K.1, K.2.1, K.2.2.1, K.2.2.2.1, nc', ns') 1595 [(0, .ref 2000), (1, .ref 0), (2, .ref 122), (3, .ref 158), (4, .int (nI i))] [] S') : J K 40 [(0, .ref 2000), (1, .ref 0), (2, .ref 122), (3, .ref 158), (4, .int (nI i))] [.int vv] S := by
  have hin1 : vp_in (nI i + (1 : Int32)) N := by have q := vp_in_nI (n := i + 1) (N := N) (by omega) (by omega); rwa [show nI (i + 1) = nI i + (1 : Int32) from (nI_add i 1).symm] at q
  have hin2 : vp_in (nI i + (2 : Int32)) N := by have q := vp_in_nI (n := i + 2) (N := N) (by omega) (by omega); rwa [show nI (i + 2) = nI i + (2 : Int32) from (nI_add i 2).symm] at q
  have hin3 : vp_in (nI i + (3 : Int32)) N := by have q := vp_in_nI (n := i + 3) (N := N) (by omega) (by omega); rwa [show nI (i + 3) = nI i + (3 : Int32) from (nI_add i 3).symm] at q
  refine j_tabC hK (10 : Int32) 604 dL_law_40 hv10 (by decide) rfl (by decide) ?_
  refine j_aload_n hK dL_law_604 1 rfl rfl ?_
  refine j_aload_n hK dL_law_605 0 rfl rfl ?_
  refine j_iload hK dL_law_606 4 rfl ?_
  refine j_iconst hK (1 : Int32) dL_law_608 ic_1 ?_
  refine j_iadd hK dL_law_609 ?_
  refine j_sld hK hsc dL_law_610 hin1 ?_
  refine j_aload_n hK dL_law_611 0 rfl rfl ?_
  refine j_iload hK dL_law_612 4 rfl ?_
  refine j_iconst hK (2 : Int32) dL_law_614 ic_2 ?_
  refine j_iadd hK dL_law_615 ?_
  refine j_sld hK hsc dL_law_616 hin2 ?_
  refine j_aload_n hK dL_law_617 0 rfl rfl ?_
  refine j_iload hK dL_law_618 4 rfl ?_
  refine j_iconst hK (3 : Int32) dL_law_620 ic_3 ?_
  refine j_iadd hK dL_law_621 ?_
  refine j_sld hK hsc dL_law_622 hin3 ?_
  obtain ⟨r, S1, S2, h1, h2, hRel2⟩ := hE_digs (xs (nI i + (1 : Int32)).toNatClampNeg) (xs (nI i + (2 : Int32)).toNatClampNeg) (xs (nI i + (3 : Int32)).toNatClampNeg) S hRel
  refine k_callVi hK (c_X10_digs h1) dL_law_623 zclX10 zo_0 ml_L_74 mi_X10_digs mx_X10_digs in_X10 mc_X10_digs hy_X10_digs ⟨by decide, by decide⟩ rfl (Nat.le_of_ble_eq_true rfl) ?_
  refine j_aload_n hK dL_law_626 2 rfl rfl ?_
  refine j_aload_n hK dL_law_627 0 rfl rfl ?_
  refine j_iload hK dL_law_628 4 rfl ?_
  refine j_iconst hK (1 : Int32) dL_law_630 ic_1 ?_
  refine j_iadd hK dL_law_631 ?_
  refine j_sld hK hsc dL_law_632 hin1 ?_
  refine j_aload_n hK dL_law_633 0 rfl rfl ?_
  refine j_iload hK dL_law_634 4 rfl ?_
  refine j_iconst hK (2 : Int32) dL_law_636 ic_2 ?_
  refine j_iadd hK dL_law_637 ?_
  refine j_sld hK hsc dL_law_638 hin2 ?_
  refine j_aload_n hK dL_law_639 0 rfl rfl ?_
  refine j_iload hK dL_law_640 4 rfl ?_
  refine j_iconst hK (3 : Int32) dL_law_642 ic_3 ?_
  refine j_iadd hK dL_law_643 ?_
  refine j_sld hK hsc dL_law_644 hin3 ?_
  refine k_callVi hK (c_X11_digs h2) dL_law_645 zclX11 zo_122 ml_L_78 mi_X11_digs mx_X11_digs in_X11 mc_X11_digs hy_X11_digs ⟨by decide, by decide⟩ rfl (Nat.le_of_ble_eq_true rfl) ?_
  refine j_icmp_eq hK 1595 dL_law_648 (by decide) (fun _ => ?_) (fun hc => absurd rfl hc)
  exact nextI _ _ S2 (Nat.le_refl _) (Nat.le_refl _) hRel2 (Nat.le_succ _) (Nat.le_add_right _ _)
theorem law_c11 {Rel : St → Prop} (hE_season : EQ1 Rel (f_X10_season) (f_X11_season)) {K : CT} {N : Nat} {xs : Nat → Int32} (hK : KO K cL_law RL 8 200 (some .boolean)) (hz : zroom K) (hsc : zSc K N xs) {i : Nat} (hi : i + 6 ≤ N) (hN : N ≤ 3072) {S : St} (hRel : Rel S) {vv : Int32} (hv11 : vv = (11 : Int32))
    (nextI : ∀ (nc' ns' : Nat) (S' : St), K.2.2.2.2.1 ≤ nc' → K.2.2.2.2.2 ≤ ns' → Rel S' → nc' ≤ K.2.2.2.2.1 + 1 → ns' ≤ K.2.2.2.2.2 + 6 → J (K.1, K.2.1, K.2.2.1, K.2.2.2.1, nc', ns') 1595 [(0, .ref 2000), (1, .ref 0), (2, .ref 122), (3, .ref 158), (4, .int (nI i))] [] S') : J K 40 [(0, .ref 2000), (1, .ref 0), (2, .ref 122), (3, .ref 158), (4, .int (nI i))] [.int vv] S := by
  refine j_tabC hK (11 : Int32) 653 dL_law_40 hv11 (by decide) rfl (by decide) ?_
  refine j_aload_n hK dL_law_653 1 rfl rfl ?_
  obtain ⟨r, S1, S2, h1, h2, hRel2⟩ := hE_season S hRel
  refine k_callVi hK (c_X10_season h1) dL_law_654 zclX10 zo_0 ml_L_79 mi_X10_season mx_X10_season in_X10 mc_X10_season hy_X10_season ⟨by decide, by decide⟩ rfl (Nat.le_of_ble_eq_true rfl) ?_
  refine j_aload_n hK dL_law_657 2 rfl rfl ?_
  refine k_callVi hK (c_X11_season h2) dL_law_658 zclX11 zo_122 ml_L_82 mi_X11_season mx_X11_season in_X11 mc_X11_season hy_X11_season ⟨by decide, by decide⟩ rfl (Nat.le_of_ble_eq_true rfl) ?_
  refine j_icmp_eq hK 1595 dL_law_661 (by decide) (fun _ => ?_) (fun hc => absurd rfl hc)
  exact nextI _ _ S2 (Nat.le_refl _) (Nat.le_refl _) hRel2 (Nat.le_succ _) (Nat.le_add_right _ _)
theorem law_c12 {Rel : St → Prop} (hE_undo : EQ1 Rel (f_X10_undo) (f_X11_undo)) {K : CT} {N : Nat} {xs : Nat → Int32} (hK : KO K cL_law RL 8 200 (some .boolean)) (hz : zroom K) (hsc : zSc K N xs) {i : Nat} (hi : i + 6 ≤ N) (hN : N ≤ 3072) {S : St} (hRel : Rel S) {vv : Int32} (hv12 : vv = (12 : Int32))
    (nextI : ∀ (nc' ns' : Nat) (S' : St), K.2.2.2.2.1 ≤ nc' → K.2.2.2.2.2 ≤ ns' → Rel S' → nc' ≤ K.2.2.2.2.1 + 1 → ns' ≤ K.2.2.2.2.2 + 6 → J (K.1, K.2.1, K.2.2.1, K.2.2.2.1, nc', ns') 1595 [(0, .ref 2000), (1, .ref 0), (2, .ref 122), (3, .ref 158), (4, .int (nI i))] [] S') : J K 40 [(0, .ref 2000), (1, .ref 0), (2, .ref 122), (3, .ref 158), (4, .int (nI i))] [.int vv] S := by
  refine j_tabC hK (12 : Int32) 666 dL_law_40 hv12 (by decide) rfl (by decide) ?_
  refine j_aload_n hK dL_law_666 1 rfl rfl ?_
  obtain ⟨r, S1, S2, h1, h2, hRel2⟩ := hE_undo S hRel
  refine k_callVi hK (c_X10_undo h1) dL_law_667 zclX10 zo_0 ml_L_83 mi_X10_undo mx_X10_undo in_X10 mc_X10_undo hy_X10_undo ⟨by decide, by decide⟩ rfl (Nat.le_of_ble_eq_true rfl) ?_
  refine j_aload_n hK dL_law_670 2 rfl rfl ?_
  refine k_callVi hK (c_X11_undo h2) dL_law_671 zclX11 zo_122 ml_L_86 mi_X11_undo mx_X11_undo in_X11 mc_X11_undo hy_X11_undo ⟨by decide, by decide⟩ rfl (Nat.le_of_ble_eq_true rfl) ?_
  refine j_icmp_eq hK 1595 dL_law_674 (by decide) (fun _ => ?_) (fun hc => absurd rfl hc)
  exact nextI _ _ S2 (Nat.le_refl _) (Nat.le_refl _) hRel2 (Nat.le_succ _) (Nat.le_add_right _ _)
theorem law_c13 {Rel : St → Prop} (hE_route : ∀ a1 a2 : Int32, EQ1 Rel (f_X10_route a1 a2) (f_X11_route a1 a2)) {K : CT} {N : Nat} {xs : Nat → Int32} (hK : KO K cL_law RL 8 200 (some .boolean)) (hz : zroom K) (hsc : zSc K N xs) {i : Nat} (hi : i + 6 ≤ N) (hN : N ≤ 3072) {S : St} (hRel : Rel S) {vv : Int32} (hv13 : vv = (13 : Int32))
    (nextI : ∀ (nc' ns' : Nat) (S' : St), K.2.2.2.2.1 ≤ nc' → K.2.2.2.2.2 ≤ ns' → Rel S' → nc' ≤ K.2.2.2.2.1 + 1 → ns' ≤ K.2.2.2.2.2 + 6 → J (K.1, K.2.1, K.2.2.1, K.2.2.2.1, nc', ns') 1595 [(0, .ref 2000), (1, .ref 0), (2, .ref 122), (3, .ref 158), (4, .int (nI i))] [] S') : J K 40 [(0, .ref 2000), (1, .ref 0), (2, .ref 122), (3, .ref 158), (4, .int (nI i))] [.int vv] S := by
  have hin1 : vp_in (nI i + (1 : Int32)) N := by have q := vp_in_nI (n := i + 1) (N := N) (by omega) (by omega); rwa [show nI (i + 1) = nI i + (1 : Int32) from (nI_add i 1).symm] at q
  have hin2 : vp_in (nI i + (2 : Int32)) N := by have q := vp_in_nI (n := i + 2) (N := N) (by omega) (by omega); rwa [show nI (i + 2) = nI i + (2 : Int32) from (nI_add i 2).symm] at q
  refine j_tabC hK (13 : Int32) 679 dL_law_40 hv13 (by decide) rfl (by decide) ?_
  refine j_aload_n hK dL_law_679 1 rfl rfl ?_
  refine j_aload_n hK dL_law_680 0 rfl rfl ?_
  refine j_iload hK dL_law_681 4 rfl ?_
  refine j_iconst hK (1 : Int32) dL_law_683 ic_1 ?_
  refine j_iadd hK dL_law_684 ?_
  refine j_sld hK hsc dL_law_685 hin1 ?_
  refine j_aload_n hK dL_law_686 0 rfl rfl ?_
  refine j_iload hK dL_law_687 4 rfl ?_
  refine j_iconst hK (2 : Int32) dL_law_689 ic_2 ?_
  refine j_iadd hK dL_law_690 ?_
  refine j_sld hK hsc dL_law_691 hin2 ?_
  obtain ⟨r, S1, S2, h1, h2, hRel2⟩ := hE_route (xs (nI i + (1 : Int32)).toNatClampNeg) (xs (nI i + (2 : Int32)).toNatClampNeg) S hRel
  refine k_callVi hK (c_X10_route h1) dL_law_692 zclX10 zo_0 ml_L_87 mi_X10_route mx_X10_route in_X10 mc_X10_route hy_X10_route ⟨by decide, by decide⟩ rfl (Nat.le_of_ble_eq_true rfl) ?_
  refine j_aload_n hK dL_law_695 2 rfl rfl ?_
  refine j_aload_n hK dL_law_696 0 rfl rfl ?_
  refine j_iload hK dL_law_697 4 rfl ?_
  refine j_iconst hK (1 : Int32) dL_law_699 ic_1 ?_
  refine j_iadd hK dL_law_700 ?_
  refine j_sld hK hsc dL_law_701 hin1 ?_
  refine j_aload_n hK dL_law_702 0 rfl rfl ?_
  refine j_iload hK dL_law_703 4 rfl ?_
  refine j_iconst hK (2 : Int32) dL_law_705 ic_2 ?_
  refine j_iadd hK dL_law_706 ?_
  refine j_sld hK hsc dL_law_707 hin2 ?_
  refine k_callVi hK (c_X11_route h2) dL_law_708 zclX11 zo_122 ml_L_90 mi_X11_route mx_X11_route in_X11 mc_X11_route hy_X11_route ⟨by decide, by decide⟩ rfl (Nat.le_of_ble_eq_true rfl) ?_
  refine j_icmp_eq hK 1595 dL_law_711 (by decide) (fun _ => ?_) (fun hc => absurd rfl hc)
  exact nextI _ _ S2 (Nat.le_refl _) (Nat.le_refl _) hRel2 (Nat.le_succ _) (Nat.le_add_right _ _)
theorem law_c14 {Rel : St → Prop} (hE_hears : ∀ a1 a2 : Int32, EQ1 Rel (f_X10_hears a1 a2) (f_X11_hears a1 a2)) {K : CT} {N : Nat} {xs : Nat → Int32} (hK : KO K cL_law RL 8 200 (some .boolean)) (hz : zroom K) (hsc : zSc K N xs) {i : Nat} (hi : i + 6 ≤ N) (hN : N ≤ 3072) {S : St} (hRel : Rel S) {vv : Int32} (hv14 : vv = (14 : Int32))
    (nextI : ∀ (nc' ns' : Nat) (S' : St), K.2.2.2.2.1 ≤ nc' → K.2.2.2.2.2 ≤ ns' → Rel S' → nc' ≤ K.2.2.2.2.1 + 1 → ns' ≤ K.2.2.2.2.2 + 6 → J (K.1, K.2.1, K.2.2.1, K.2.2.2.1, nc', ns') 1595 [(0, .ref 2000), (1, .ref 0), (2, .ref 122), (3, .ref 158), (4, .int (nI i))] [] S') : J K 40 [(0, .ref 2000), (1, .ref 0), (2, .ref 122), (3, .ref 158), (4, .int (nI i))] [.int vv] S := by
  have hin1 : vp_in (nI i + (1 : Int32)) N := by have q := vp_in_nI (n := i + 1) (N := N) (by omega) (by omega); rwa [show nI (i + 1) = nI i + (1 : Int32) from (nI_add i 1).symm] at q
  have hin2 : vp_in (nI i + (2 : Int32)) N := by have q := vp_in_nI (n := i + 2) (N := N) (by omega) (by omega); rwa [show nI (i + 2) = nI i + (2 : Int32) from (nI_add i 2).symm] at q
  refine j_tabC hK (14 : Int32) 716 dL_law_40 hv14 (by decide) rfl (by decide) ?_
  refine j_aload_n hK dL_law_716 1 rfl rfl ?_
  refine j_aload_n hK dL_law_717 0 rfl rfl ?_
  refine j_iload hK dL_law_718 4 rfl ?_
  refine j_iconst hK (1 : Int32) dL_law_720 ic_1 ?_
  refine j_iadd hK dL_law_721 ?_
  refine j_sld hK hsc dL_law_722 hin1 ?_
  refine j_aload_n hK dL_law_723 0 rfl rfl ?_
  refine j_iload hK dL_law_724 4 rfl ?_
  refine j_iconst hK (2 : Int32) dL_law_726 ic_2 ?_
  refine j_iadd hK dL_law_727 ?_
  refine j_sld hK hsc dL_law_728 hin2 ?_
  obtain ⟨r, S1, S2, h1, h2, hRel2⟩ := hE_hears (xs (nI i + (1 : Int32)).toNatClampNeg) (xs (nI i + (2 : Int32)).toNatClampNeg) S hRel
  refine k_callVi hK (c_X10_hears h1) dL_law_729 zclX10 zo_0 ml_L_91 mi_X10_hears mx_X10_hears in_X10 mc_X10_hears hy_X10_hears ⟨by decide, by decide⟩ rfl (Nat.le_of_ble_eq_true rfl) ?_
  refine j_aload_n hK dL_law_732 2 rfl rfl ?_
  refine j_aload_n hK dL_law_733 0 rfl rfl ?_
  refine j_iload hK dL_law_734 4 rfl ?_
  refine j_iconst hK (1 : Int32) dL_law_736 ic_1 ?_
  refine j_iadd hK dL_law_737 ?_
  refine j_sld hK hsc dL_law_738 hin1 ?_
  refine j_aload_n hK dL_law_739 0 rfl rfl ?_
  refine j_iload hK dL_law_740 4 rfl ?_
  refine j_iconst hK (2 : Int32) dL_law_742 ic_2 ?_
  refine j_iadd hK dL_law_743 ?_
  refine j_sld hK hsc dL_law_744 hin2 ?_
  refine k_callVi hK (c_X11_hears h2) dL_law_745 zclX11 zo_122 ml_L_94 mi_X11_hears mx_X11_hears in_X11 mc_X11_hears hy_X11_hears ⟨by decide, by decide⟩ rfl (Nat.le_of_ble_eq_true rfl) ?_
  refine j_icmp_eq hK 1595 dL_law_748 (by decide) (fun _ => ?_) (fun hc => absurd rfl hc)
  exact nextI _ _ S2 (Nat.le_refl _) (Nat.le_refl _) hRel2 (Nat.le_succ _) (Nat.le_add_right _ _)
theorem law_c15 {Rel : St → Prop} (hE_asks : ∀ a1 a2 : Int32, EQ1 Rel (f_X10_asks a1 a2) (f_X11_asks a1 a2)) {K : CT} {N : Nat} {xs : Nat → Int32} (hK : KO K cL_law RL 8 200 (some .boolean)) (hz : zroom K) (hsc : zSc K N xs) {i : Nat} (hi : i + 6 ≤ N) (hN : N ≤ 3072) {S : St} (hRel : Rel S) {vv : Int32} (hv15 : vv = (15 : Int32))
    (nextI : ∀ (nc' ns' : Nat) (S' : St), K.2.2.2.2.1 ≤ nc' → K.2.2.2.2.2 ≤ ns' → Rel S' → nc' ≤ K.2.2.2.2.1 + 1 → ns' ≤ K.2.2.2.2.2 + 6 → J (K.1, K.2.1, K.2.2.1, K.2.2.2.1, nc', ns') 1595 [(0, .ref 2000), (1, .ref 0), (2, .ref 122), (3, .ref 158), (4, .int (nI i))] [] S') : J K 40 [(0, .ref 2000), (1, .ref 0), (2, .ref 122), (3, .ref 158), (4, .int (nI i))] [.int vv] S := by
  have hin1 : vp_in (nI i + (1 : Int32)) N := by have q := vp_in_nI (n := i + 1) (N := N) (by omega) (by omega); rwa [show nI (i + 1) = nI i + (1 : Int32) from (nI_add i 1).symm] at q
  have hin2 : vp_in (nI i + (2 : Int32)) N := by have q := vp_in_nI (n := i + 2) (N := N) (by omega) (by omega); rwa [show nI (i + 2) = nI i + (2 : Int32) from (nI_add i 2).symm] at q
  refine j_tabC hK (15 : Int32) 753 dL_law_40 hv15 (by decide) rfl (by decide) ?_
  refine j_aload_n hK dL_law_753 1 rfl rfl ?_
  refine j_aload_n hK dL_law_754 0 rfl rfl ?_
  refine j_iload hK dL_law_755 4 rfl ?_
  refine j_iconst hK (1 : Int32) dL_law_757 ic_1 ?_
  refine j_iadd hK dL_law_758 ?_
  refine j_sld hK hsc dL_law_759 hin1 ?_
  refine j_aload_n hK dL_law_760 0 rfl rfl ?_
  refine j_iload hK dL_law_761 4 rfl ?_
  refine j_iconst hK (2 : Int32) dL_law_763 ic_2 ?_
  refine j_iadd hK dL_law_764 ?_
  refine j_sld hK hsc dL_law_765 hin2 ?_
  obtain ⟨r, S1, S2, h1, h2, hRel2⟩ := hE_asks (xs (nI i + (1 : Int32)).toNatClampNeg) (xs (nI i + (2 : Int32)).toNatClampNeg) S hRel
  refine k_callVi hK (c_X10_asks h1) dL_law_766 zclX10 zo_0 ml_L_95 mi_X10_asks mx_X10_asks in_X10 mc_X10_asks hy_X10_asks ⟨by decide, by decide⟩ rfl (Nat.le_of_ble_eq_true rfl) ?_
  refine j_aload_n hK dL_law_769 2 rfl rfl ?_
  refine j_aload_n hK dL_law_770 0 rfl rfl ?_
  refine j_iload hK dL_law_771 4 rfl ?_
  refine j_iconst hK (1 : Int32) dL_law_773 ic_1 ?_
  refine j_iadd hK dL_law_774 ?_
  refine j_sld hK hsc dL_law_775 hin1 ?_
  refine j_aload_n hK dL_law_776 0 rfl rfl ?_
  refine j_iload hK dL_law_777 4 rfl ?_
  refine j_iconst hK (2 : Int32) dL_law_779 ic_2 ?_
  refine j_iadd hK dL_law_780 ?_
  refine j_sld hK hsc dL_law_781 hin2 ?_
  refine k_callVi hK (c_X11_asks h2) dL_law_782 zclX11 zo_122 ml_L_98 mi_X11_asks mx_X11_asks in_X11 mc_X11_asks hy_X11_asks ⟨by decide, by decide⟩ rfl (Nat.le_of_ble_eq_true rfl) ?_
  refine j_icmp_eq hK 1595 dL_law_785 (by decide) (fun _ => ?_) (fun hc => absurd rfl hc)
  exact nextI _ _ S2 (Nat.le_refl _) (Nat.le_refl _) hRel2 (Nat.le_succ _) (Nat.le_add_right _ _)
theorem law_c16 {Rel : St → Prop} (hE_becomes : EQ1 Rel (f_X10_becomes) (f_X11_becomes)) {K : CT} {N : Nat} {xs : Nat → Int32} (hK : KO K cL_law RL 8 200 (some .boolean)) (hz : zroom K) (hsc : zSc K N xs) {i : Nat} (hi : i + 6 ≤ N) (hN : N ≤ 3072) {S : St} (hRel : Rel S) {vv : Int32} (hv16 : vv = (16 : Int32))
    (nextI : ∀ (nc' ns' : Nat) (S' : St), K.2.2.2.2.1 ≤ nc' → K.2.2.2.2.2 ≤ ns' → Rel S' → nc' ≤ K.2.2.2.2.1 + 1 → ns' ≤ K.2.2.2.2.2 + 6 → J (K.1, K.2.1, K.2.2.1, K.2.2.2.1, nc', ns') 1595 [(0, .ref 2000), (1, .ref 0), (2, .ref 122), (3, .ref 158), (4, .int (nI i))] [] S') : J K 40 [(0, .ref 2000), (1, .ref 0), (2, .ref 122), (3, .ref 158), (4, .int (nI i))] [.int vv] S := by
  refine j_tabC hK (16 : Int32) 790 dL_law_40 hv16 (by decide) rfl (by decide) ?_
  refine j_aload_n hK dL_law_790 1 rfl rfl ?_
  obtain ⟨r, S1, S2, h1, h2, hRel2⟩ := hE_becomes S hRel
  refine k_callVi hK (c_X10_becomes h1) dL_law_791 zclX10 zo_0 ml_L_99 mi_X10_becomes mx_X10_becomes in_X10 mc_X10_becomes hy_X10_becomes ⟨by decide, by decide⟩ rfl (Nat.le_of_ble_eq_true rfl) ?_
  refine j_aload_n hK dL_law_794 2 rfl rfl ?_
  refine k_callVi hK (c_X11_becomes h2) dL_law_795 zclX11 zo_122 ml_L_102 mi_X11_becomes mx_X11_becomes in_X11 mc_X11_becomes hy_X11_becomes ⟨by decide, by decide⟩ rfl (Nat.le_of_ble_eq_true rfl) ?_
  refine j_icmp_eq hK 1595 dL_law_798 (by decide) (fun _ => ?_) (fun hc => absurd rfl hc)
  exact nextI _ _ S2 (Nat.le_refl _) (Nat.le_refl _) hRel2 (Nat.le_succ _) (Nat.le_add_right _ _)
theorem law_c17 {Rel : St → Prop} (hE_keeps : ∀ a1 a2 : Int32, EQ1 Rel (f_X10_keeps a1 a2) (f_X11_keeps a1 a2)) {K : CT} {N : Nat} {xs : Nat → Int32} (hK : KO K cL_law RL 8 200 (some .boolean)) (hz : zroom K) (hsc : zSc K N xs) {i : Nat} (hi : i + 6 ≤ N) (hN : N ≤ 3072) {S : St} (hRel : Rel S) {vv : Int32} (hv17 : vv = (17 : Int32))
    (nextI : ∀ (nc' ns' : Nat) (S' : St), K.2.2.2.2.1 ≤ nc' → K.2.2.2.2.2 ≤ ns' → Rel S' → nc' ≤ K.2.2.2.2.1 + 1 → ns' ≤ K.2.2.2.2.2 + 6 → J (K.1, K.2.1, K.2.2.1, K.2.2.2.1, nc', ns') 1595 [(0, .ref 2000), (1, .ref 0), (2, .ref 122), (3, .ref 158), (4, .int (nI i))] [] S') : J K 40 [(0, .ref 2000), (1, .ref 0), (2, .ref 122), (3, .ref 158), (4, .int (nI i))] [.int vv] S := by
  have hin1 : vp_in (nI i + (1 : Int32)) N := by have q := vp_in_nI (n := i + 1) (N := N) (by omega) (by omega); rwa [show nI (i + 1) = nI i + (1 : Int32) from (nI_add i 1).symm] at q
  have hin2 : vp_in (nI i + (2 : Int32)) N := by have q := vp_in_nI (n := i + 2) (N := N) (by omega) (by omega); rwa [show nI (i + 2) = nI i + (2 : Int32) from (nI_add i 2).symm] at q
  refine j_tabC hK (17 : Int32) 803 dL_law_40 hv17 (by decide) rfl (by decide) ?_
  refine j_aload_n hK dL_law_803 1 rfl rfl ?_
  refine j_aload_n hK dL_law_804 0 rfl rfl ?_
  refine j_iload hK dL_law_805 4 rfl ?_
  refine j_iconst hK (1 : Int32) dL_law_807 ic_1 ?_
  refine j_iadd hK dL_law_808 ?_
  refine j_sld hK hsc dL_law_809 hin1 ?_
  refine j_aload_n hK dL_law_810 0 rfl rfl ?_
  refine j_iload hK dL_law_811 4 rfl ?_
  refine j_iconst hK (2 : Int32) dL_law_813 ic_2 ?_
  refine j_iadd hK dL_law_814 ?_
  refine j_sld hK hsc dL_law_815 hin2 ?_
  obtain ⟨r, S1, S2, h1, h2, hRel2⟩ := hE_keeps (xs (nI i + (1 : Int32)).toNatClampNeg) (xs (nI i + (2 : Int32)).toNatClampNeg) S hRel
  refine k_callVi hK (c_X10_keeps h1) dL_law_816 zclX10 zo_0 ml_L_103 mi_X10_keeps mx_X10_keeps in_X10 mc_X10_keeps hy_X10_keeps ⟨by decide, by decide⟩ rfl (Nat.le_of_ble_eq_true rfl) ?_
  refine j_aload_n hK dL_law_819 2 rfl rfl ?_
  refine j_aload_n hK dL_law_820 0 rfl rfl ?_
  refine j_iload hK dL_law_821 4 rfl ?_
  refine j_iconst hK (1 : Int32) dL_law_823 ic_1 ?_
  refine j_iadd hK dL_law_824 ?_
  refine j_sld hK hsc dL_law_825 hin1 ?_
  refine j_aload_n hK dL_law_826 0 rfl rfl ?_
  refine j_iload hK dL_law_827 4 rfl ?_
  refine j_iconst hK (2 : Int32) dL_law_829 ic_2 ?_
  refine j_iadd hK dL_law_830 ?_
  refine j_sld hK hsc dL_law_831 hin2 ?_
  refine k_callVi hK (c_X11_keeps h2) dL_law_832 zclX11 zo_122 ml_L_106 mi_X11_keeps mx_X11_keeps in_X11 mc_X11_keeps hy_X11_keeps ⟨by decide, by decide⟩ rfl (Nat.le_of_ble_eq_true rfl) ?_
  refine j_icmp_eq hK 1595 dL_law_835 (by decide) (fun _ => ?_) (fun hc => absurd rfl hc)
  exact nextI _ _ S2 (Nat.le_refl _) (Nat.le_refl _) hRel2 (Nat.le_succ _) (Nat.le_add_right _ _)
theorem law_c18 {Rel : St → Prop} (hE_apart : ∀ a1 a2 a3 : Int32, EQ1 Rel (f_X10_apart a1 a2 a3) (f_X11_apart a1 a2 a3)) {K : CT} {N : Nat} {xs : Nat → Int32} (hK : KO K cL_law RL 8 200 (some .boolean)) (hz : zroom K) (hsc : zSc K N xs) {i : Nat} (hi : i + 6 ≤ N) (hN : N ≤ 3072) {S : St} (hRel : Rel S) {vv : Int32} (hv18 : vv = (18 : Int32))
    (nextI : ∀ (nc' ns' : Nat) (S' : St), K.2.2.2.2.1 ≤ nc' → K.2.2.2.2.2 ≤ ns' → Rel S' → nc' ≤ K.2.2.2.2.1 + 1 → ns' ≤ K.2.2.2.2.2 + 6 → J (K.1, K.2.1, K.2.2.1, K.2.2.2.1, nc', ns') 1595 [(0, .ref 2000), (1, .ref 0), (2, .ref 122), (3, .ref 158), (4, .int (nI i))] [] S') : J K 40 [(0, .ref 2000), (1, .ref 0), (2, .ref 122), (3, .ref 158), (4, .int (nI i))] [.int vv] S := by
  have hin1 : vp_in (nI i + (1 : Int32)) N := by have q := vp_in_nI (n := i + 1) (N := N) (by omega) (by omega); rwa [show nI (i + 1) = nI i + (1 : Int32) from (nI_add i 1).symm] at q
  have hin2 : vp_in (nI i + (2 : Int32)) N := by have q := vp_in_nI (n := i + 2) (N := N) (by omega) (by omega); rwa [show nI (i + 2) = nI i + (2 : Int32) from (nI_add i 2).symm] at q
  have hin3 : vp_in (nI i + (3 : Int32)) N := by have q := vp_in_nI (n := i + 3) (N := N) (by omega) (by omega); rwa [show nI (i + 3) = nI i + (3 : Int32) from (nI_add i 3).symm] at q
  refine j_tabC hK (18 : Int32) 840 dL_law_40 hv18 (by decide) rfl (by decide) ?_
  refine j_aload_n hK dL_law_840 1 rfl rfl ?_
  refine j_aload_n hK dL_law_841 0 rfl rfl ?_
  refine j_iload hK dL_law_842 4 rfl ?_
  refine j_iconst hK (1 : Int32) dL_law_844 ic_1 ?_
  refine j_iadd hK dL_law_845 ?_
  refine j_sld hK hsc dL_law_846 hin1 ?_
  refine j_aload_n hK dL_law_847 0 rfl rfl ?_
  refine j_iload hK dL_law_848 4 rfl ?_
  refine j_iconst hK (2 : Int32) dL_law_850 ic_2 ?_
  refine j_iadd hK dL_law_851 ?_
  refine j_sld hK hsc dL_law_852 hin2 ?_
  refine j_aload_n hK dL_law_853 0 rfl rfl ?_
  refine j_iload hK dL_law_854 4 rfl ?_
  refine j_iconst hK (3 : Int32) dL_law_856 ic_3 ?_
  refine j_iadd hK dL_law_857 ?_
  refine j_sld hK hsc dL_law_858 hin3 ?_
  obtain ⟨r, S1, S2, h1, h2, hRel2⟩ := hE_apart (xs (nI i + (1 : Int32)).toNatClampNeg) (xs (nI i + (2 : Int32)).toNatClampNeg) (xs (nI i + (3 : Int32)).toNatClampNeg) S hRel
  refine k_callVi hK (c_X10_apart h1) dL_law_859 zclX10 zo_0 ml_L_107 mi_X10_apart mx_X10_apart in_X10 mc_X10_apart hy_X10_apart ⟨by decide, by decide⟩ rfl (Nat.le_of_ble_eq_true rfl) ?_
  refine j_aload_n hK dL_law_862 2 rfl rfl ?_
  refine j_aload_n hK dL_law_863 0 rfl rfl ?_
  refine j_iload hK dL_law_864 4 rfl ?_
  refine j_iconst hK (1 : Int32) dL_law_866 ic_1 ?_
  refine j_iadd hK dL_law_867 ?_
  refine j_sld hK hsc dL_law_868 hin1 ?_
  refine j_aload_n hK dL_law_869 0 rfl rfl ?_
  refine j_iload hK dL_law_870 4 rfl ?_
  refine j_iconst hK (2 : Int32) dL_law_872 ic_2 ?_
  refine j_iadd hK dL_law_873 ?_
  refine j_sld hK hsc dL_law_874 hin2 ?_
  refine j_aload_n hK dL_law_875 0 rfl rfl ?_
  refine j_iload hK dL_law_876 4 rfl ?_
  refine j_iconst hK (3 : Int32) dL_law_878 ic_3 ?_
  refine j_iadd hK dL_law_879 ?_
  refine j_sld hK hsc dL_law_880 hin3 ?_
  refine k_callVi hK (c_X11_apart h2) dL_law_881 zclX11 zo_122 ml_L_110 mi_X11_apart mx_X11_apart in_X11 mc_X11_apart hy_X11_apart ⟨by decide, by decide⟩ rfl (Nat.le_of_ble_eq_true rfl) ?_
  refine j_icmp_eq hK 1595 dL_law_884 (by decide) (fun _ => ?_) (fun hc => absurd rfl hc)
  exact nextI _ _ S2 (Nat.le_refl _) (Nat.le_refl _) hRel2 (Nat.le_succ _) (Nat.le_add_right _ _)
theorem law_c19 {Rel : St → Prop} (hE_longest : ∀ a1 : Int32, EQ1 Rel (f_X10_longest a1) (f_X11_longest a1)) {K : CT} {N : Nat} {xs : Nat → Int32} (hK : KO K cL_law RL 8 200 (some .boolean)) (hz : zroom K) (hsc : zSc K N xs) {i : Nat} (hi : i + 6 ≤ N) (hN : N ≤ 3072) {S : St} (hRel : Rel S) {vv : Int32} (hv19 : vv = (19 : Int32))
    (nextI : ∀ (nc' ns' : Nat) (S' : St), K.2.2.2.2.1 ≤ nc' → K.2.2.2.2.2 ≤ ns' → Rel S' → nc' ≤ K.2.2.2.2.1 + 1 → ns' ≤ K.2.2.2.2.2 + 6 → J (K.1, K.2.1, K.2.2.1, K.2.2.2.1, nc', ns') 1595 [(0, .ref 2000), (1, .ref 0), (2, .ref 122), (3, .ref 158), (4, .int (nI i))] [] S') : J K 40 [(0, .ref 2000), (1, .ref 0), (2, .ref 122), (3, .ref 158), (4, .int (nI i))] [.int vv] S := by
  have hin1 : vp_in (nI i + (1 : Int32)) N := by have q := vp_in_nI (n := i + 1) (N := N) (by omega) (by omega); rwa [show nI (i + 1) = nI i + (1 : Int32) from (nI_add i 1).symm] at q
  refine j_tabC hK (19 : Int32) 889 dL_law_40 hv19 (by decide) rfl (by decide) ?_
  refine j_aload_n hK dL_law_889 1 rfl rfl ?_
  refine j_aload_n hK dL_law_890 0 rfl rfl ?_
  refine j_iload hK dL_law_891 4 rfl ?_
  refine j_iconst hK (1 : Int32) dL_law_893 ic_1 ?_
  refine j_iadd hK dL_law_894 ?_
  refine j_sld hK hsc dL_law_895 hin1 ?_
  obtain ⟨r, S1, S2, h1, h2, hRel2⟩ := hE_longest (xs (nI i + (1 : Int32)).toNatClampNeg) S hRel
  refine k_callVi hK (c_X10_longest h1) dL_law_896 zclX10 zo_0 ml_L_111 mi_X10_longest mx_X10_longest in_X10 mc_X10_longest hy_X10_longest ⟨by decide, by decide⟩ rfl (Nat.le_of_ble_eq_true rfl) ?_
  refine j_aload_n hK dL_law_899 2 rfl rfl ?_
  refine j_aload_n hK dL_law_900 0 rfl rfl ?_
  refine j_iload hK dL_law_901 4 rfl ?_
  refine j_iconst hK (1 : Int32) dL_law_903 ic_1 ?_
  refine j_iadd hK dL_law_904 ?_
  refine j_sld hK hsc dL_law_905 hin1 ?_
  refine k_callVi hK (c_X11_longest h2) dL_law_906 zclX11 zo_122 ml_L_114 mi_X11_longest mx_X11_longest in_X11 mc_X11_longest hy_X11_longest ⟨by decide, by decide⟩ rfl (Nat.le_of_ble_eq_true rfl) ?_
  refine j_icmp_eq hK 1595 dL_law_909 (by decide) (fun _ => ?_) (fun hc => absurd rfl hc)
  exact nextI _ _ S2 (Nat.le_refl _) (Nat.le_refl _) hRel2 (Nat.le_succ _) (Nat.le_add_right _ _)
theorem law_c20 {Rel : St → Prop} (hE_rounds : EQ1 Rel (f_X10_rounds) (f_X11_rounds)) {K : CT} {N : Nat} {xs : Nat → Int32} (hK : KO K cL_law RL 8 200 (some .boolean)) (hz : zroom K) (hsc : zSc K N xs) {i : Nat} (hi : i + 6 ≤ N) (hN : N ≤ 3072) {S : St} (hRel : Rel S) {vv : Int32} (hv20 : vv = (20 : Int32))
    (nextI : ∀ (nc' ns' : Nat) (S' : St), K.2.2.2.2.1 ≤ nc' → K.2.2.2.2.2 ≤ ns' → Rel S' → nc' ≤ K.2.2.2.2.1 + 1 → ns' ≤ K.2.2.2.2.2 + 6 → J (K.1, K.2.1, K.2.2.1, K.2.2.2.1, nc', ns') 1595 [(0, .ref 2000), (1, .ref 0), (2, .ref 122), (3, .ref 158), (4, .int (nI i))] [] S') : J K 40 [(0, .ref 2000), (1, .ref 0), (2, .ref 122), (3, .ref 158), (4, .int (nI i))] [.int vv] S := by
  refine j_tabC hK (20 : Int32) 914 dL_law_40 hv20 (by decide) rfl (by decide) ?_
  refine j_aload_n hK dL_law_914 1 rfl rfl ?_
  obtain ⟨r, S1, S2, h1, h2, hRel2⟩ := hE_rounds S hRel
  refine k_callVi hK (c_X10_rounds h1) dL_law_915 zclX10 zo_0 ml_L_115 mi_X10_rounds mx_X10_rounds in_X10 mc_X10_rounds hy_X10_rounds ⟨by decide, by decide⟩ rfl (Nat.le_of_ble_eq_true rfl) ?_
  refine j_aload_n hK dL_law_918 2 rfl rfl ?_
  refine k_callVi hK (c_X11_rounds h2) dL_law_919 zclX11 zo_122 ml_L_118 mi_X11_rounds mx_X11_rounds in_X11 mc_X11_rounds hy_X11_rounds ⟨by decide, by decide⟩ rfl (Nat.le_of_ble_eq_true rfl) ?_
  refine j_icmp_eq hK 1595 dL_law_922 (by decide) (fun _ => ?_) (fun hc => absurd rfl hc)
  exact nextI _ _ S2 (Nat.le_refl _) (Nat.le_refl _) hRel2 (Nat.le_succ _) (Nat.le_add_right _ _)
theorem law_c21 {Rel : St → Prop} (hE_way : ∀ a1 a2 : Int32, EQ1 Rel (f_X10_way a1 a2) (f_X11_way a1 a2)) {K : CT} {N : Nat} {xs : Nat → Int32} (hK : KO K cL_law RL 8 200 (some .boolean)) (hz : zroom K) (hsc : zSc K N xs) {i : Nat} (hi : i + 6 ≤ N) (hN : N ≤ 3072) {S : St} (hRel : Rel S) {vv : Int32} (hv21 : vv = (21 : Int32))
    (nextI : ∀ (nc' ns' : Nat) (S' : St), K.2.2.2.2.1 ≤ nc' → K.2.2.2.2.2 ≤ ns' → Rel S' → nc' ≤ K.2.2.2.2.1 + 1 → ns' ≤ K.2.2.2.2.2 + 6 → J (K.1, K.2.1, K.2.2.1, K.2.2.2.1, nc', ns') 1595 [(0, .ref 2000), (1, .ref 0), (2, .ref 122), (3, .ref 158), (4, .int (nI i))] [] S') : J K 40 [(0, .ref 2000), (1, .ref 0), (2, .ref 122), (3, .ref 158), (4, .int (nI i))] [.int vv] S := by
  have hin1 : vp_in (nI i + (1 : Int32)) N := by have q := vp_in_nI (n := i + 1) (N := N) (by omega) (by omega); rwa [show nI (i + 1) = nI i + (1 : Int32) from (nI_add i 1).symm] at q
  have hin2 : vp_in (nI i + (2 : Int32)) N := by have q := vp_in_nI (n := i + 2) (N := N) (by omega) (by omega); rwa [show nI (i + 2) = nI i + (2 : Int32) from (nI_add i 2).symm] at q
  refine j_tabC hK (21 : Int32) 927 dL_law_40 hv21 (by decide) rfl (by decide) ?_
  refine j_aload_n hK dL_law_927 1 rfl rfl ?_
  refine j_aload_n hK dL_law_928 0 rfl rfl ?_
  refine j_iload hK dL_law_929 4 rfl ?_
  refine j_iconst hK (1 : Int32) dL_law_931 ic_1 ?_
  refine j_iadd hK dL_law_932 ?_
  refine j_sld hK hsc dL_law_933 hin1 ?_
  refine j_aload_n hK dL_law_934 0 rfl rfl ?_
  refine j_iload hK dL_law_935 4 rfl ?_
  refine j_iconst hK (2 : Int32) dL_law_937 ic_2 ?_
  refine j_iadd hK dL_law_938 ?_
  refine j_sld hK hsc dL_law_939 hin2 ?_
  obtain ⟨r, S1, S2, h1, h2, hRel2⟩ := hE_way (xs (nI i + (1 : Int32)).toNatClampNeg) (xs (nI i + (2 : Int32)).toNatClampNeg) S hRel
  refine k_callVi hK (c_X10_way h1) dL_law_940 zclX10 zo_0 ml_L_119 mi_X10_way mx_X10_way in_X10 mc_X10_way hy_X10_way ⟨by decide, by decide⟩ rfl (Nat.le_of_ble_eq_true rfl) ?_
  refine j_aload_n hK dL_law_943 2 rfl rfl ?_
  refine j_aload_n hK dL_law_944 0 rfl rfl ?_
  refine j_iload hK dL_law_945 4 rfl ?_
  refine j_iconst hK (1 : Int32) dL_law_947 ic_1 ?_
  refine j_iadd hK dL_law_948 ?_
  refine j_sld hK hsc dL_law_949 hin1 ?_
  refine j_aload_n hK dL_law_950 0 rfl rfl ?_
  refine j_iload hK dL_law_951 4 rfl ?_
  refine j_iconst hK (2 : Int32) dL_law_953 ic_2 ?_
  refine j_iadd hK dL_law_954 ?_
  refine j_sld hK hsc dL_law_955 hin2 ?_
  refine k_callVi hK (c_X11_way h2) dL_law_956 zclX11 zo_122 ml_L_122 mi_X11_way mx_X11_way in_X11 mc_X11_way hy_X11_way ⟨by decide, by decide⟩ rfl (Nat.le_of_ble_eq_true rfl) ?_
  refine j_icmp_eq hK 1595 dL_law_959 (by decide) (fun _ => ?_) (fun hc => absurd rfl hc)
  exact nextI _ _ S2 (Nat.le_refl _) (Nat.le_refl _) hRel2 (Nat.le_succ _) (Nat.le_add_right _ _)
theorem law_c22 {Rel : St → Prop} (hE_meets : ∀ a1 a2 : Int32, EQ1 Rel (f_X10_meets a1 a2) (f_X11_meets a1 a2)) {K : CT} {N : Nat} {xs : Nat → Int32} (hK : KO K cL_law RL 8 200 (some .boolean)) (hz : zroom K) (hsc : zSc K N xs) {i : Nat} (hi : i + 6 ≤ N) (hN : N ≤ 3072) {S : St} (hRel : Rel S) {vv : Int32} (hv22 : vv = (22 : Int32))
    (nextI : ∀ (nc' ns' : Nat) (S' : St), K.2.2.2.2.1 ≤ nc' → K.2.2.2.2.2 ≤ ns' → Rel S' → nc' ≤ K.2.2.2.2.1 + 1 → ns' ≤ K.2.2.2.2.2 + 6 → J (K.1, K.2.1, K.2.2.1, K.2.2.2.1, nc', ns') 1595 [(0, .ref 2000), (1, .ref 0), (2, .ref 122), (3, .ref 158), (4, .int (nI i))] [] S') : J K 40 [(0, .ref 2000), (1, .ref 0), (2, .ref 122), (3, .ref 158), (4, .int (nI i))] [.int vv] S := by
  have hin1 : vp_in (nI i + (1 : Int32)) N := by have q := vp_in_nI (n := i + 1) (N := N) (by omega) (by omega); rwa [show nI (i + 1) = nI i + (1 : Int32) from (nI_add i 1).symm] at q
  have hin2 : vp_in (nI i + (2 : Int32)) N := by have q := vp_in_nI (n := i + 2) (N := N) (by omega) (by omega); rwa [show nI (i + 2) = nI i + (2 : Int32) from (nI_add i 2).symm] at q
  refine j_tabC hK (22 : Int32) 964 dL_law_40 hv22 (by decide) rfl (by decide) ?_
  refine j_aload_n hK dL_law_964 1 rfl rfl ?_
  refine j_aload_n hK dL_law_965 0 rfl rfl ?_
  refine j_iload hK dL_law_966 4 rfl ?_
  refine j_iconst hK (1 : Int32) dL_law_968 ic_1 ?_
  refine j_iadd hK dL_law_969 ?_
  refine j_sld hK hsc dL_law_970 hin1 ?_
  refine j_aload_n hK dL_law_971 0 rfl rfl ?_
  refine j_iload hK dL_law_972 4 rfl ?_
  refine j_iconst hK (2 : Int32) dL_law_974 ic_2 ?_
  refine j_iadd hK dL_law_975 ?_
  refine j_sld hK hsc dL_law_976 hin2 ?_
  obtain ⟨r, S1, S2, h1, h2, hRel2⟩ := hE_meets (xs (nI i + (1 : Int32)).toNatClampNeg) (xs (nI i + (2 : Int32)).toNatClampNeg) S hRel
  refine k_callVi hK (c_X10_meets h1) dL_law_977 zclX10 zo_0 ml_L_123 mi_X10_meets mx_X10_meets in_X10 mc_X10_meets hy_X10_meets ⟨by decide, by decide⟩ rfl (Nat.le_of_ble_eq_true rfl) ?_
  refine j_aload_n hK dL_law_980 2 rfl rfl ?_
  refine j_aload_n hK dL_law_981 0 rfl rfl ?_
  refine j_iload hK dL_law_982 4 rfl ?_
  refine j_iconst hK (1 : Int32) dL_law_984 ic_1 ?_
  refine j_iadd hK dL_law_985 ?_
  refine j_sld hK hsc dL_law_986 hin1 ?_
  refine j_aload_n hK dL_law_987 0 rfl rfl ?_
  refine j_iload hK dL_law_988 4 rfl ?_
  refine j_iconst hK (2 : Int32) dL_law_990 ic_2 ?_
  refine j_iadd hK dL_law_991 ?_
  refine j_sld hK hsc dL_law_992 hin2 ?_
  refine k_callVi hK (c_X11_meets h2) dL_law_993 zclX11 zo_122 ml_L_126 mi_X11_meets mx_X11_meets in_X11 mc_X11_meets hy_X11_meets ⟨by decide, by decide⟩ rfl (Nat.le_of_ble_eq_true rfl) ?_
  refine j_icmp_eq hK 1595 dL_law_996 (by decide) (fun _ => ?_) (fun hc => absurd rfl hc)
  exact nextI _ _ S2 (Nat.le_refl _) (Nat.le_refl _) hRel2 (Nat.le_succ _) (Nat.le_add_right _ _)
theorem law_c23 {Rel : St → Prop} (hE_heart : EQ1 Rel (f_X10_heart) (f_X11_heart)) {K : CT} {N : Nat} {xs : Nat → Int32} (hK : KO K cL_law RL 8 200 (some .boolean)) (hz : zroom K) (hsc : zSc K N xs) {i : Nat} (hi : i + 6 ≤ N) (hN : N ≤ 3072) {S : St} (hRel : Rel S) {vv : Int32} (hv23 : vv = (23 : Int32))
    (nextI : ∀ (nc' ns' : Nat) (S' : St), K.2.2.2.2.1 ≤ nc' → K.2.2.2.2.2 ≤ ns' → Rel S' → nc' ≤ K.2.2.2.2.1 + 1 → ns' ≤ K.2.2.2.2.2 + 6 → J (K.1, K.2.1, K.2.2.1, K.2.2.2.1, nc', ns') 1595 [(0, .ref 2000), (1, .ref 0), (2, .ref 122), (3, .ref 158), (4, .int (nI i))] [] S') : J K 40 [(0, .ref 2000), (1, .ref 0), (2, .ref 122), (3, .ref 158), (4, .int (nI i))] [.int vv] S := by
  refine j_tabC hK (23 : Int32) 1001 dL_law_40 hv23 (by decide) rfl (by decide) ?_
  refine j_aload_n hK dL_law_1001 1 rfl rfl ?_
  obtain ⟨r, S1, S2, h1, h2, hRel2⟩ := hE_heart S hRel
  refine k_callVi hK (c_X10_heart h1) dL_law_1002 zclX10 zo_0 ml_L_127 mi_X10_heart mx_X10_heart in_X10 mc_X10_heart hy_X10_heart ⟨by decide, by decide⟩ rfl (Nat.le_of_ble_eq_true rfl) ?_
  refine j_aload_n hK dL_law_1005 2 rfl rfl ?_
  refine k_callVi hK (c_X11_heart h2) dL_law_1006 zclX11 zo_122 ml_L_130 mi_X11_heart mx_X11_heart in_X11 mc_X11_heart hy_X11_heart ⟨by decide, by decide⟩ rfl (Nat.le_of_ble_eq_true rfl) ?_
  refine j_icmp_eq hK 1595 dL_law_1009 (by decide) (fun _ => ?_) (fun hc => absurd rfl hc)
  exact nextI _ _ S2 (Nat.le_refl _) (Nat.le_refl _) hRel2 (Nat.le_succ _) (Nat.le_add_right _ _)
theorem law_c24 {Rel : St → Prop} (hE_ropes : EQ1 Rel (f_X10_ropes) (f_X11_ropes)) {K : CT} {N : Nat} {xs : Nat → Int32} (hK : KO K cL_law RL 8 200 (some .boolean)) (hz : zroom K) (hsc : zSc K N xs) {i : Nat} (hi : i + 6 ≤ N) (hN : N ≤ 3072) {S : St} (hRel : Rel S) {vv : Int32} (hv24 : vv = (24 : Int32))
    (nextI : ∀ (nc' ns' : Nat) (S' : St), K.2.2.2.2.1 ≤ nc' → K.2.2.2.2.2 ≤ ns' → Rel S' → nc' ≤ K.2.2.2.2.1 + 1 → ns' ≤ K.2.2.2.2.2 + 6 → J (K.1, K.2.1, K.2.2.1, K.2.2.2.1, nc', ns') 1595 [(0, .ref 2000), (1, .ref 0), (2, .ref 122), (3, .ref 158), (4, .int (nI i))] [] S') : J K 40 [(0, .ref 2000), (1, .ref 0), (2, .ref 122), (3, .ref 158), (4, .int (nI i))] [.int vv] S := by
  refine j_tabC hK (24 : Int32) 1014 dL_law_40 hv24 (by decide) rfl (by decide) ?_
  refine j_aload_n hK dL_law_1014 1 rfl rfl ?_
  obtain ⟨r, S1, S2, h1, h2, hRel2⟩ := hE_ropes S hRel
  refine k_callVi hK (c_X10_ropes h1) dL_law_1015 zclX10 zo_0 ml_L_131 mi_X10_ropes mx_X10_ropes in_X10 mc_X10_ropes hy_X10_ropes ⟨by decide, by decide⟩ rfl (Nat.le_of_ble_eq_true rfl) ?_
  refine j_aload_n hK dL_law_1018 2 rfl rfl ?_
  refine k_callVi hK (c_X11_ropes h2) dL_law_1019 zclX11 zo_122 ml_L_134 mi_X11_ropes mx_X11_ropes in_X11 mc_X11_ropes hy_X11_ropes ⟨by decide, by decide⟩ rfl (Nat.le_of_ble_eq_true rfl) ?_
  refine j_icmp_eq hK 1595 dL_law_1022 (by decide) (fun _ => ?_) (fun hc => absurd rfl hc)
  exact nextI _ _ S2 (Nat.le_refl _) (Nat.le_refl _) hRel2 (Nat.le_succ _) (Nat.le_add_right _ _)
theorem law_c25 {Rel : St → Prop} (hE_needed : EQ1 Rel (f_X10_needed) (f_X11_needed)) {K : CT} {N : Nat} {xs : Nat → Int32} (hK : KO K cL_law RL 8 200 (some .boolean)) (hz : zroom K) (hsc : zSc K N xs) {i : Nat} (hi : i + 6 ≤ N) (hN : N ≤ 3072) {S : St} (hRel : Rel S) {vv : Int32} (hv25 : vv = (25 : Int32))
    (nextI : ∀ (nc' ns' : Nat) (S' : St), K.2.2.2.2.1 ≤ nc' → K.2.2.2.2.2 ≤ ns' → Rel S' → nc' ≤ K.2.2.2.2.1 + 1 → ns' ≤ K.2.2.2.2.2 + 6 → J (K.1, K.2.1, K.2.2.1, K.2.2.2.1, nc', ns') 1595 [(0, .ref 2000), (1, .ref 0), (2, .ref 122), (3, .ref 158), (4, .int (nI i))] [] S') : J K 40 [(0, .ref 2000), (1, .ref 0), (2, .ref 122), (3, .ref 158), (4, .int (nI i))] [.int vv] S := by
  refine j_tabC hK (25 : Int32) 1027 dL_law_40 hv25 (by decide) rfl (by decide) ?_
  refine j_aload_n hK dL_law_1027 1 rfl rfl ?_
  obtain ⟨r, S1, S2, h1, h2, hRel2⟩ := hE_needed S hRel
  refine k_callVi hK (c_X10_needed h1) dL_law_1028 zclX10 zo_0 ml_L_135 mi_X10_needed mx_X10_needed in_X10 mc_X10_needed hy_X10_needed ⟨by decide, by decide⟩ rfl (Nat.le_of_ble_eq_true rfl) ?_
  refine j_aload_n hK dL_law_1031 2 rfl rfl ?_
  refine k_callVi hK (c_X11_needed h2) dL_law_1032 zclX11 zo_122 ml_L_138 mi_X11_needed mx_X11_needed in_X11 mc_X11_needed hy_X11_needed ⟨by decide, by decide⟩ rfl (Nat.le_of_ble_eq_true rfl) ?_
  refine j_icmp_eq hK 1595 dL_law_1035 (by decide) (fun _ => ?_) (fun hc => absurd rfl hc)
  exact nextI _ _ S2 (Nat.le_refl _) (Nat.le_refl _) hRel2 (Nat.le_succ _) (Nat.le_add_right _ _)
theorem law_c26 {Rel : St → Prop} (hE_tour : ∀ a1 a2 : Int32, EQ1 Rel (f_X10_tour a1 a2) (f_X11_tour a1 a2)) {K : CT} {N : Nat} {xs : Nat → Int32} (hK : KO K cL_law RL 8 200 (some .boolean)) (hz : zroom K) (hsc : zSc K N xs) {i : Nat} (hi : i + 6 ≤ N) (hN : N ≤ 3072) {S : St} (hRel : Rel S) {vv : Int32} (hv26 : vv = (26 : Int32))
    (nextI : ∀ (nc' ns' : Nat) (S' : St), K.2.2.2.2.1 ≤ nc' → K.2.2.2.2.2 ≤ ns' → Rel S' → nc' ≤ K.2.2.2.2.1 + 1 → ns' ≤ K.2.2.2.2.2 + 6 → J (K.1, K.2.1, K.2.2.1, K.2.2.2.1, nc', ns') 1595 [(0, .ref 2000), (1, .ref 0), (2, .ref 122), (3, .ref 158), (4, .int (nI i))] [] S') : J K 40 [(0, .ref 2000), (1, .ref 0), (2, .ref 122), (3, .ref 158), (4, .int (nI i))] [.int vv] S := by
  have hin1 : vp_in (nI i + (1 : Int32)) N := by have q := vp_in_nI (n := i + 1) (N := N) (by omega) (by omega); rwa [show nI (i + 1) = nI i + (1 : Int32) from (nI_add i 1).symm] at q
  have hin2 : vp_in (nI i + (2 : Int32)) N := by have q := vp_in_nI (n := i + 2) (N := N) (by omega) (by omega); rwa [show nI (i + 2) = nI i + (2 : Int32) from (nI_add i 2).symm] at q
  refine j_tabC hK (26 : Int32) 1040 dL_law_40 hv26 (by decide) rfl (by decide) ?_
  refine j_aload_n hK dL_law_1040 1 rfl rfl ?_
  refine j_aload_n hK dL_law_1041 0 rfl rfl ?_
  refine j_iload hK dL_law_1042 4 rfl ?_
  refine j_iconst hK (1 : Int32) dL_law_1044 ic_1 ?_
  refine j_iadd hK dL_law_1045 ?_
  refine j_sld hK hsc dL_law_1046 hin1 ?_
  refine j_aload_n hK dL_law_1047 0 rfl rfl ?_
  refine j_iload hK dL_law_1048 4 rfl ?_
  refine j_iconst hK (2 : Int32) dL_law_1050 ic_2 ?_
  refine j_iadd hK dL_law_1051 ?_
  refine j_sld hK hsc dL_law_1052 hin2 ?_
  obtain ⟨r, S1, S2, h1, h2, hRel2⟩ := hE_tour (xs (nI i + (1 : Int32)).toNatClampNeg) (xs (nI i + (2 : Int32)).toNatClampNeg) S hRel
  refine k_callVi hK (c_X10_tour h1) dL_law_1053 zclX10 zo_0 ml_L_139 mi_X10_tour mx_X10_tour in_X10 mc_X10_tour hy_X10_tour ⟨by decide, by decide⟩ rfl (Nat.le_of_ble_eq_true rfl) ?_
  refine j_aload_n hK dL_law_1056 2 rfl rfl ?_
  refine j_aload_n hK dL_law_1057 0 rfl rfl ?_
  refine j_iload hK dL_law_1058 4 rfl ?_
  refine j_iconst hK (1 : Int32) dL_law_1060 ic_1 ?_
  refine j_iadd hK dL_law_1061 ?_
  refine j_sld hK hsc dL_law_1062 hin1 ?_
  refine j_aload_n hK dL_law_1063 0 rfl rfl ?_
  refine j_iload hK dL_law_1064 4 rfl ?_
  refine j_iconst hK (2 : Int32) dL_law_1066 ic_2 ?_
  refine j_iadd hK dL_law_1067 ?_
  refine j_sld hK hsc dL_law_1068 hin2 ?_
  refine k_callVi hK (c_X11_tour h2) dL_law_1069 zclX11 zo_122 ml_L_142 mi_X11_tour mx_X11_tour in_X11 mc_X11_tour hy_X11_tour ⟨by decide, by decide⟩ rfl (Nat.le_of_ble_eq_true rfl) ?_
  refine j_icmp_eq hK 1595 dL_law_1072 (by decide) (fun _ => ?_) (fun hc => absurd rfl hc)
  exact nextI _ _ S2 (Nat.le_refl _) (Nat.le_refl _) hRel2 (Nat.le_succ _) (Nat.le_add_right _ _)
theorem law_c27 {Rel : St → Prop} (hE_halves : EQ1 Rel (f_X10_halves) (f_X11_halves)) {K : CT} {N : Nat} {xs : Nat → Int32} (hK : KO K cL_law RL 8 200 (some .boolean)) (hz : zroom K) (hsc : zSc K N xs) {i : Nat} (hi : i + 6 ≤ N) (hN : N ≤ 3072) {S : St} (hRel : Rel S) {vv : Int32} (hv27 : vv = (27 : Int32))
    (nextI : ∀ (nc' ns' : Nat) (S' : St), K.2.2.2.2.1 ≤ nc' → K.2.2.2.2.2 ≤ ns' → Rel S' → nc' ≤ K.2.2.2.2.1 + 1 → ns' ≤ K.2.2.2.2.2 + 6 → J (K.1, K.2.1, K.2.2.1, K.2.2.2.1, nc', ns') 1595 [(0, .ref 2000), (1, .ref 0), (2, .ref 122), (3, .ref 158), (4, .int (nI i))] [] S') : J K 40 [(0, .ref 2000), (1, .ref 0), (2, .ref 122), (3, .ref 158), (4, .int (nI i))] [.int vv] S := by
  refine j_tabC hK (27 : Int32) 1077 dL_law_40 hv27 (by decide) rfl (by decide) ?_
  refine j_aload_n hK dL_law_1077 1 rfl rfl ?_
  obtain ⟨r, S1, S2, h1, h2, hRel2⟩ := hE_halves S hRel
  refine k_callVi hK (c_X10_halves h1) dL_law_1078 zclX10 zo_0 ml_L_143 mi_X10_halves mx_X10_halves in_X10 mc_X10_halves hy_X10_halves ⟨by decide, by decide⟩ rfl (Nat.le_of_ble_eq_true rfl) ?_
  refine j_aload_n hK dL_law_1081 2 rfl rfl ?_
  refine k_callVi hK (c_X11_halves h2) dL_law_1082 zclX11 zo_122 ml_L_146 mi_X11_halves mx_X11_halves in_X11 mc_X11_halves hy_X11_halves ⟨by decide, by decide⟩ rfl (Nat.le_of_ble_eq_true rfl) ?_
  refine j_icmp_eq hK 1595 dL_law_1085 (by decide) (fun _ => ?_) (fun hc => absurd rfl hc)
  exact nextI _ _ S2 (Nat.le_refl _) (Nat.le_refl _) hRel2 (Nat.le_succ _) (Nat.le_add_right _ _)
theorem law_c28 {Rel : St → Prop} (hE_guides : EQ1 Rel (f_X10_guides) (f_X11_guides)) {K : CT} {N : Nat} {xs : Nat → Int32} (hK : KO K cL_law RL 8 200 (some .boolean)) (hz : zroom K) (hsc : zSc K N xs) {i : Nat} (hi : i + 6 ≤ N) (hN : N ≤ 3072) {S : St} (hRel : Rel S) {vv : Int32} (hv28 : vv = (28 : Int32))
    (nextI : ∀ (nc' ns' : Nat) (S' : St), K.2.2.2.2.1 ≤ nc' → K.2.2.2.2.2 ≤ ns' → Rel S' → nc' ≤ K.2.2.2.2.1 + 1 → ns' ≤ K.2.2.2.2.2 + 6 → J (K.1, K.2.1, K.2.2.1, K.2.2.2.1, nc', ns') 1595 [(0, .ref 2000), (1, .ref 0), (2, .ref 122), (3, .ref 158), (4, .int (nI i))] [] S') : J K 40 [(0, .ref 2000), (1, .ref 0), (2, .ref 122), (3, .ref 158), (4, .int (nI i))] [.int vv] S := by
  refine j_tabC hK (28 : Int32) 1090 dL_law_40 hv28 (by decide) rfl (by decide) ?_
  refine j_aload_n hK dL_law_1090 1 rfl rfl ?_
  obtain ⟨r, S1, S2, h1, h2, hRel2⟩ := hE_guides S hRel
  refine k_callVi hK (c_X10_guides h1) dL_law_1091 zclX10 zo_0 ml_L_147 mi_X10_guides mx_X10_guides in_X10 mc_X10_guides hy_X10_guides ⟨by decide, by decide⟩ rfl (Nat.le_of_ble_eq_true rfl) ?_
  refine j_aload_n hK dL_law_1094 2 rfl rfl ?_
  refine k_callVi hK (c_X11_guides h2) dL_law_1095 zclX11 zo_122 ml_L_150 mi_X11_guides mx_X11_guides in_X11 mc_X11_guides hy_X11_guides ⟨by decide, by decide⟩ rfl (Nat.le_of_ble_eq_true rfl) ?_
  refine j_icmp_eq hK 1595 dL_law_1098 (by decide) (fun _ => ?_) (fun hc => absurd rfl hc)
  exact nextI _ _ S2 (Nat.le_refl _) (Nat.le_refl _) hRel2 (Nat.le_succ _) (Nat.le_add_right _ _)
theorem law_c29 {Rel : St → Prop} (hE_most : EQ1 Rel (f_X10_most) (f_X11_most)) {K : CT} {N : Nat} {xs : Nat → Int32} (hK : KO K cL_law RL 8 200 (some .boolean)) (hz : zroom K) (hsc : zSc K N xs) {i : Nat} (hi : i + 6 ≤ N) (hN : N ≤ 3072) {S : St} (hRel : Rel S) {vv : Int32} (hv29 : vv = (29 : Int32))
    (nextI : ∀ (nc' ns' : Nat) (S' : St), K.2.2.2.2.1 ≤ nc' → K.2.2.2.2.2 ≤ ns' → Rel S' → nc' ≤ K.2.2.2.2.1 + 1 → ns' ≤ K.2.2.2.2.2 + 6 → J (K.1, K.2.1, K.2.2.1, K.2.2.2.1, nc', ns') 1595 [(0, .ref 2000), (1, .ref 0), (2, .ref 122), (3, .ref 158), (4, .int (nI i))] [] S') : J K 40 [(0, .ref 2000), (1, .ref 0), (2, .ref 122), (3, .ref 158), (4, .int (nI i))] [.int vv] S := by
  refine j_tabC hK (29 : Int32) 1103 dL_law_40 hv29 (by decide) rfl (by decide) ?_
  refine j_aload_n hK dL_law_1103 1 rfl rfl ?_
  obtain ⟨r, S1, S2, h1, h2, hRel2⟩ := hE_most S hRel
  refine k_callVi hK (c_X10_most h1) dL_law_1104 zclX10 zo_0 ml_L_151 mi_X10_most mx_X10_most in_X10 mc_X10_most hy_X10_most ⟨by decide, by decide⟩ rfl (Nat.le_of_ble_eq_true rfl) ?_
  refine j_aload_n hK dL_law_1107 2 rfl rfl ?_
  refine k_callVi hK (c_X11_most h2) dL_law_1108 zclX11 zo_122 ml_L_154 mi_X11_most mx_X11_most in_X11 mc_X11_most hy_X11_most ⟨by decide, by decide⟩ rfl (Nat.le_of_ble_eq_true rfl) ?_
  refine j_icmp_eq hK 1595 dL_law_1111 (by decide) (fun _ => ?_) (fun hc => absurd rfl hc)
  exact nextI _ _ S2 (Nat.le_refl _) (Nat.le_refl _) hRel2 (Nat.le_succ _) (Nat.le_add_right _ _)
theorem law_c30 {Rel : St → Prop} (hE_told : ∀ a1 a2 : Int32, EQ1 Rel (f_X10_told a1 a2) (f_X11_told a1 a2)) {K : CT} {N : Nat} {xs : Nat → Int32} (hK : KO K cL_law RL 8 200 (some .boolean)) (hz : zroom K) (hsc : zSc K N xs) {i : Nat} (hi : i + 6 ≤ N) (hN : N ≤ 3072) {S : St} (hRel : Rel S) {vv : Int32} (hv30 : vv = (30 : Int32))
    (nextI : ∀ (nc' ns' : Nat) (S' : St), K.2.2.2.2.1 ≤ nc' → K.2.2.2.2.2 ≤ ns' → Rel S' → nc' ≤ K.2.2.2.2.1 + 1 → ns' ≤ K.2.2.2.2.2 + 6 → J (K.1, K.2.1, K.2.2.1, K.2.2.2.1, nc', ns') 1595 [(0, .ref 2000), (1, .ref 0), (2, .ref 122), (3, .ref 158), (4, .int (nI i))] [] S') : J K 40 [(0, .ref 2000), (1, .ref 0), (2, .ref 122), (3, .ref 158), (4, .int (nI i))] [.int vv] S := by
  have hin1 : vp_in (nI i + (1 : Int32)) N := by have q := vp_in_nI (n := i + 1) (N := N) (by omega) (by omega); rwa [show nI (i + 1) = nI i + (1 : Int32) from (nI_add i 1).symm] at q
  have hin2 : vp_in (nI i + (2 : Int32)) N := by have q := vp_in_nI (n := i + 2) (N := N) (by omega) (by omega); rwa [show nI (i + 2) = nI i + (2 : Int32) from (nI_add i 2).symm] at q
  refine j_tabC hK (30 : Int32) 1116 dL_law_40 hv30 (by decide) rfl (by decide) ?_
  refine j_aload_n hK dL_law_1116 1 rfl rfl ?_
  refine j_aload_n hK dL_law_1117 0 rfl rfl ?_
  refine j_iload hK dL_law_1118 4 rfl ?_
  refine j_iconst hK (1 : Int32) dL_law_1120 ic_1 ?_
  refine j_iadd hK dL_law_1121 ?_
  refine j_sld hK hsc dL_law_1122 hin1 ?_
  refine j_aload_n hK dL_law_1123 0 rfl rfl ?_
  refine j_iload hK dL_law_1124 4 rfl ?_
  refine j_iconst hK (2 : Int32) dL_law_1126 ic_2 ?_
  refine j_iadd hK dL_law_1127 ?_
  refine j_sld hK hsc dL_law_1128 hin2 ?_
  obtain ⟨r, S1, S2, h1, h2, hRel2⟩ := hE_told (xs (nI i + (1 : Int32)).toNatClampNeg) (xs (nI i + (2 : Int32)).toNatClampNeg) S hRel
  refine k_callVi hK (c_X10_told h1) dL_law_1129 zclX10 zo_0 ml_L_155 mi_X10_told mx_X10_told in_X10 mc_X10_told hy_X10_told ⟨by decide, by decide⟩ rfl (Nat.le_of_ble_eq_true rfl) ?_
  refine j_aload_n hK dL_law_1132 2 rfl rfl ?_
  refine j_aload_n hK dL_law_1133 0 rfl rfl ?_
  refine j_iload hK dL_law_1134 4 rfl ?_
  refine j_iconst hK (1 : Int32) dL_law_1136 ic_1 ?_
  refine j_iadd hK dL_law_1137 ?_
  refine j_sld hK hsc dL_law_1138 hin1 ?_
  refine j_aload_n hK dL_law_1139 0 rfl rfl ?_
  refine j_iload hK dL_law_1140 4 rfl ?_
  refine j_iconst hK (2 : Int32) dL_law_1142 ic_2 ?_
  refine j_iadd hK dL_law_1143 ?_
  refine j_sld hK hsc dL_law_1144 hin2 ?_
  refine k_callVi hK (c_X11_told h2) dL_law_1145 zclX11 zo_122 ml_L_158 mi_X11_told mx_X11_told in_X11 mc_X11_told hy_X11_told ⟨by decide, by decide⟩ rfl (Nat.le_of_ble_eq_true rfl) ?_
  refine j_icmp_eq hK 1595 dL_law_1148 (by decide) (fun _ => ?_) (fun hc => absurd rfl hc)
  exact nextI _ _ S2 (Nat.le_refl _) (Nat.le_refl _) hRel2 (Nat.le_succ _) (Nat.le_add_right _ _)
theorem law_c31 {Rel : St → Prop} (hE_forget : EQ1 Rel (f_X10_forget) (f_X11_forget)) {K : CT} {N : Nat} {xs : Nat → Int32} (hK : KO K cL_law RL 8 200 (some .boolean)) (hz : zroom K) (hsc : zSc K N xs) {i : Nat} (hi : i + 6 ≤ N) (hN : N ≤ 3072) {S : St} (hRel : Rel S) {vv : Int32} (hv31 : vv = (31 : Int32))
    (nextI : ∀ (nc' ns' : Nat) (S' : St), K.2.2.2.2.1 ≤ nc' → K.2.2.2.2.2 ≤ ns' → Rel S' → nc' ≤ K.2.2.2.2.1 + 1 → ns' ≤ K.2.2.2.2.2 + 6 → J (K.1, K.2.1, K.2.2.1, K.2.2.2.1, nc', ns') 1595 [(0, .ref 2000), (1, .ref 0), (2, .ref 122), (3, .ref 158), (4, .int (nI i))] [] S') : J K 40 [(0, .ref 2000), (1, .ref 0), (2, .ref 122), (3, .ref 158), (4, .int (nI i))] [.int vv] S := by
  refine j_tabC hK (31 : Int32) 1153 dL_law_40 hv31 (by decide) rfl (by decide) ?_
  refine j_aload_n hK dL_law_1153 1 rfl rfl ?_
  obtain ⟨r, S1, S2, h1, h2, hRel2⟩ := hE_forget S hRel
  refine k_callVi hK (c_X10_forget h1) dL_law_1154 zclX10 zo_0 ml_L_159 mi_X10_forget mx_X10_forget in_X10 mc_X10_forget hy_X10_forget ⟨by decide, by decide⟩ rfl (Nat.le_of_ble_eq_true rfl) ?_
  refine j_aload_n hK dL_law_1157 2 rfl rfl ?_
  refine k_callVi hK (c_X11_forget h2) dL_law_1158 zclX11 zo_122 ml_L_162 mi_X11_forget mx_X11_forget in_X11 mc_X11_forget hy_X11_forget ⟨by decide, by decide⟩ rfl (Nat.le_of_ble_eq_true rfl) ?_
  refine j_icmp_eq hK 1595 dL_law_1161 (by decide) (fun _ => ?_) (fun hc => absurd rfl hc)
  exact nextI _ _ S2 (Nat.le_refl _) (Nat.le_refl _) hRel2 (Nat.le_succ _) (Nat.le_add_right _ _)
theorem law_c32 {Rel : St → Prop} (hE_fits : EQ1 Rel (f_X10_fits) (f_X11_fits)) {K : CT} {N : Nat} {xs : Nat → Int32} (hK : KO K cL_law RL 8 200 (some .boolean)) (hz : zroom K) (hsc : zSc K N xs) {i : Nat} (hi : i + 6 ≤ N) (hN : N ≤ 3072) {S : St} (hRel : Rel S) {vv : Int32} (hv32 : vv = (32 : Int32))
    (nextI : ∀ (nc' ns' : Nat) (S' : St), K.2.2.2.2.1 ≤ nc' → K.2.2.2.2.2 ≤ ns' → Rel S' → nc' ≤ K.2.2.2.2.1 + 1 → ns' ≤ K.2.2.2.2.2 + 6 → J (K.1, K.2.1, K.2.2.1, K.2.2.2.1, nc', ns') 1595 [(0, .ref 2000), (1, .ref 0), (2, .ref 122), (3, .ref 158), (4, .int (nI i))] [] S') : J K 40 [(0, .ref 2000), (1, .ref 0), (2, .ref 122), (3, .ref 158), (4, .int (nI i))] [.int vv] S := by
  refine j_tabC hK (32 : Int32) 1166 dL_law_40 hv32 (by decide) rfl (by decide) ?_
  refine j_aload_n hK dL_law_1166 1 rfl rfl ?_
  obtain ⟨r, S1, S2, h1, h2, hRel2⟩ := hE_fits S hRel
  refine k_callVi hK (c_X10_fits h1) dL_law_1167 zclX10 zo_0 ml_L_163 mi_X10_fits mx_X10_fits in_X10 mc_X10_fits hy_X10_fits ⟨by decide, by decide⟩ rfl (Nat.le_of_ble_eq_true rfl) ?_
  refine j_aload_n hK dL_law_1170 2 rfl rfl ?_
  refine k_callVi hK (c_X11_fits h2) dL_law_1171 zclX11 zo_122 ml_L_166 mi_X11_fits mx_X11_fits in_X11 mc_X11_fits hy_X11_fits ⟨by decide, by decide⟩ rfl (Nat.le_of_ble_eq_true rfl) ?_
  refine j_icmp_eq hK 1595 dL_law_1174 (by decide) (fun _ => ?_) (fun hc => absurd rfl hc)
  exact nextI _ _ S2 (Nat.le_refl _) (Nat.le_refl _) hRel2 (Nat.le_succ _) (Nat.le_add_right _ _)
theorem law_c33 {Rel : St → Prop} (hE_next : EQ1 Rel (f_X10_next) (f_X11_next)) {K : CT} {N : Nat} {xs : Nat → Int32} (hK : KO K cL_law RL 8 200 (some .boolean)) (hz : zroom K) (hsc : zSc K N xs) {i : Nat} (hi : i + 6 ≤ N) (hN : N ≤ 3072) {S : St} (hRel : Rel S) {vv : Int32} (hv33 : vv = (33 : Int32))
    (nextI : ∀ (nc' ns' : Nat) (S' : St), K.2.2.2.2.1 ≤ nc' → K.2.2.2.2.2 ≤ ns' → Rel S' → nc' ≤ K.2.2.2.2.1 + 1 → ns' ≤ K.2.2.2.2.2 + 6 → J (K.1, K.2.1, K.2.2.1, K.2.2.2.1, nc', ns') 1595 [(0, .ref 2000), (1, .ref 0), (2, .ref 122), (3, .ref 158), (4, .int (nI i))] [] S') : J K 40 [(0, .ref 2000), (1, .ref 0), (2, .ref 122), (3, .ref 158), (4, .int (nI i))] [.int vv] S := by
  refine j_tabC hK (33 : Int32) 1179 dL_law_40 hv33 (by decide) rfl (by decide) ?_
  refine j_aload_n hK dL_law_1179 1 rfl rfl ?_
  obtain ⟨r, S1, S2, h1, h2, hRel2⟩ := hE_next S hRel
  refine k_callVi hK (c_X10_next h1) dL_law_1180 zclX10 zo_0 ml_L_167 mi_X10_next mx_X10_next in_X10 mc_X10_next hy_X10_next ⟨by decide, by decide⟩ rfl (Nat.le_of_ble_eq_true rfl) ?_
  refine j_aload_n hK dL_law_1183 2 rfl rfl ?_
  refine k_callVi hK (c_X11_next h2) dL_law_1184 zclX11 zo_122 ml_L_170 mi_X11_next mx_X11_next in_X11 mc_X11_next hy_X11_next ⟨by decide, by decide⟩ rfl (Nat.le_of_ble_eq_true rfl) ?_
  refine j_icmp_eq hK 1595 dL_law_1187 (by decide) (fun _ => ?_) (fun hc => absurd rfl hc)
  exact nextI _ _ S2 (Nat.le_refl _) (Nat.le_refl _) hRel2 (Nat.le_succ _) (Nat.le_add_right _ _)
theorem law_c34 {Rel : St → Prop} (hE_heard : ∀ a1 a2 a3 : Int32, EQ1 Rel (f_X10_heard a1 a2 a3) (f_X11_heard a1 a2 a3)) {K : CT} {N : Nat} {xs : Nat → Int32} (hK : KO K cL_law RL 8 200 (some .boolean)) (hz : zroom K) (hsc : zSc K N xs) {i : Nat} (hi : i + 6 ≤ N) (hN : N ≤ 3072) {S : St} (hRel : Rel S) {vv : Int32} (hv34 : vv = (34 : Int32))
    (nextI : ∀ (nc' ns' : Nat) (S' : St), K.2.2.2.2.1 ≤ nc' → K.2.2.2.2.2 ≤ ns' → Rel S' → nc' ≤ K.2.2.2.2.1 + 1 → ns' ≤ K.2.2.2.2.2 + 6 → J (K.1, K.2.1, K.2.2.1, K.2.2.2.1, nc', ns') 1595 [(0, .ref 2000), (1, .ref 0), (2, .ref 122), (3, .ref 158), (4, .int (nI i))] [] S') : J K 40 [(0, .ref 2000), (1, .ref 0), (2, .ref 122), (3, .ref 158), (4, .int (nI i))] [.int vv] S := by
  have hin1 : vp_in (nI i + (1 : Int32)) N := by have q := vp_in_nI (n := i + 1) (N := N) (by omega) (by omega); rwa [show nI (i + 1) = nI i + (1 : Int32) from (nI_add i 1).symm] at q
  have hin2 : vp_in (nI i + (2 : Int32)) N := by have q := vp_in_nI (n := i + 2) (N := N) (by omega) (by omega); rwa [show nI (i + 2) = nI i + (2 : Int32) from (nI_add i 2).symm] at q
  have hin3 : vp_in (nI i + (3 : Int32)) N := by have q := vp_in_nI (n := i + 3) (N := N) (by omega) (by omega); rwa [show nI (i + 3) = nI i + (3 : Int32) from (nI_add i 3).symm] at q
  refine j_tabC hK (34 : Int32) 1192 dL_law_40 hv34 (by decide) rfl (by decide) ?_
  refine j_aload_n hK dL_law_1192 1 rfl rfl ?_
  refine j_aload_n hK dL_law_1193 0 rfl rfl ?_
  refine j_iload hK dL_law_1194 4 rfl ?_
  refine j_iconst hK (1 : Int32) dL_law_1196 ic_1 ?_
  refine j_iadd hK dL_law_1197 ?_
  refine j_sld hK hsc dL_law_1198 hin1 ?_
  refine j_aload_n hK dL_law_1199 0 rfl rfl ?_
  refine j_iload hK dL_law_1200 4 rfl ?_
  refine j_iconst hK (2 : Int32) dL_law_1202 ic_2 ?_
  refine j_iadd hK dL_law_1203 ?_
  refine j_sld hK hsc dL_law_1204 hin2 ?_
  refine j_aload_n hK dL_law_1205 0 rfl rfl ?_
  refine j_iload hK dL_law_1206 4 rfl ?_
  refine j_iconst hK (3 : Int32) dL_law_1208 ic_3 ?_
  refine j_iadd hK dL_law_1209 ?_
  refine j_sld hK hsc dL_law_1210 hin3 ?_
  obtain ⟨r, S1, S2, h1, h2, hRel2⟩ := hE_heard (xs (nI i + (1 : Int32)).toNatClampNeg) (xs (nI i + (2 : Int32)).toNatClampNeg) (xs (nI i + (3 : Int32)).toNatClampNeg) S hRel
  refine k_callVi hK (c_X10_heard h1) dL_law_1211 zclX10 zo_0 ml_L_171 mi_X10_heard mx_X10_heard in_X10 mc_X10_heard hy_X10_heard ⟨by decide, by decide⟩ rfl (Nat.le_of_ble_eq_true rfl) ?_
  refine j_aload_n hK dL_law_1214 2 rfl rfl ?_
  refine j_aload_n hK dL_law_1215 0 rfl rfl ?_
  refine j_iload hK dL_law_1216 4 rfl ?_
  refine j_iconst hK (1 : Int32) dL_law_1218 ic_1 ?_
  refine j_iadd hK dL_law_1219 ?_
  refine j_sld hK hsc dL_law_1220 hin1 ?_
  refine j_aload_n hK dL_law_1221 0 rfl rfl ?_
  refine j_iload hK dL_law_1222 4 rfl ?_
  refine j_iconst hK (2 : Int32) dL_law_1224 ic_2 ?_
  refine j_iadd hK dL_law_1225 ?_
  refine j_sld hK hsc dL_law_1226 hin2 ?_
  refine j_aload_n hK dL_law_1227 0 rfl rfl ?_
  refine j_iload hK dL_law_1228 4 rfl ?_
  refine j_iconst hK (3 : Int32) dL_law_1230 ic_3 ?_
  refine j_iadd hK dL_law_1231 ?_
  refine j_sld hK hsc dL_law_1232 hin3 ?_
  refine k_callVi hK (c_X11_heard h2) dL_law_1233 zclX11 zo_122 ml_L_174 mi_X11_heard mx_X11_heard in_X11 mc_X11_heard hy_X11_heard ⟨by decide, by decide⟩ rfl (Nat.le_of_ble_eq_true rfl) ?_
  refine j_icmp_eq hK 1595 dL_law_1236 (by decide) (fun _ => ?_) (fun hc => absurd rfl hc)
  exact nextI _ _ S2 (Nat.le_refl _) (Nat.le_refl _) hRel2 (Nat.le_succ _) (Nat.le_add_right _ _)
theorem law_c35 {Rel : St → Prop} (hE_denied : EQ1 Rel (f_X10_denied) (f_X11_denied)) {K : CT} {N : Nat} {xs : Nat → Int32} (hK : KO K cL_law RL 8 200 (some .boolean)) (hz : zroom K) (hsc : zSc K N xs) {i : Nat} (hi : i + 6 ≤ N) (hN : N ≤ 3072) {S : St} (hRel : Rel S) {vv : Int32} (hv35 : vv = (35 : Int32))
    (nextI : ∀ (nc' ns' : Nat) (S' : St), K.2.2.2.2.1 ≤ nc' → K.2.2.2.2.2 ≤ ns' → Rel S' → nc' ≤ K.2.2.2.2.1 + 1 → ns' ≤ K.2.2.2.2.2 + 6 → J (K.1, K.2.1, K.2.2.1, K.2.2.2.1, nc', ns') 1595 [(0, .ref 2000), (1, .ref 0), (2, .ref 122), (3, .ref 158), (4, .int (nI i))] [] S') : J K 40 [(0, .ref 2000), (1, .ref 0), (2, .ref 122), (3, .ref 158), (4, .int (nI i))] [.int vv] S := by
  refine j_tabC hK (35 : Int32) 1241 dL_law_40 hv35 (by decide) rfl (by decide) ?_
  refine j_aload_n hK dL_law_1241 1 rfl rfl ?_
  obtain ⟨r, S1, S2, h1, h2, hRel2⟩ := hE_denied S hRel
  refine k_callVi hK (c_X10_denied h1) dL_law_1242 zclX10 zo_0 ml_L_175 mi_X10_denied mx_X10_denied in_X10 mc_X10_denied hy_X10_denied ⟨by decide, by decide⟩ rfl (Nat.le_of_ble_eq_true rfl) ?_
  refine j_aload_n hK dL_law_1245 2 rfl rfl ?_
  refine k_callVi hK (c_X11_denied h2) dL_law_1246 zclX11 zo_122 ml_L_178 mi_X11_denied mx_X11_denied in_X11 mc_X11_denied hy_X11_denied ⟨by decide, by decide⟩ rfl (Nat.le_of_ble_eq_true rfl) ?_
  refine j_icmp_eq hK 1595 dL_law_1249 (by decide) (fun _ => ?_) (fun hc => absurd rfl hc)
  exact nextI _ _ S2 (Nat.le_refl _) (Nat.le_refl _) hRel2 (Nat.le_succ _) (Nat.le_add_right _ _)
theorem law_c36 {Rel : St → Prop} (hE_laws : EQ1 Rel (f_X10_laws) (f_X11_laws)) {K : CT} {N : Nat} {xs : Nat → Int32} (hK : KO K cL_law RL 8 200 (some .boolean)) (hz : zroom K) (hsc : zSc K N xs) {i : Nat} (hi : i + 6 ≤ N) (hN : N ≤ 3072) {S : St} (hRel : Rel S) {vv : Int32} (hv36 : vv = (36 : Int32))
    (nextI : ∀ (nc' ns' : Nat) (S' : St), K.2.2.2.2.1 ≤ nc' → K.2.2.2.2.2 ≤ ns' → Rel S' → nc' ≤ K.2.2.2.2.1 + 1 → ns' ≤ K.2.2.2.2.2 + 6 → J (K.1, K.2.1, K.2.2.1, K.2.2.2.1, nc', ns') 1595 [(0, .ref 2000), (1, .ref 0), (2, .ref 122), (3, .ref 158), (4, .int (nI i))] [] S') : J K 40 [(0, .ref 2000), (1, .ref 0), (2, .ref 122), (3, .ref 158), (4, .int (nI i))] [.int vv] S := by
  refine j_tabC hK (36 : Int32) 1254 dL_law_40 hv36 (by decide) rfl (by decide) ?_
  refine j_aload_n hK dL_law_1254 1 rfl rfl ?_
  obtain ⟨r, S1, S2, h1, h2, hRel2⟩ := hE_laws S hRel
  refine k_callVi hK (c_X10_laws h1) dL_law_1255 zclX10 zo_0 ml_L_179 mi_X10_laws mx_X10_laws in_X10 mc_X10_laws hy_X10_laws ⟨by decide, by decide⟩ rfl (Nat.le_of_ble_eq_true rfl) ?_
  refine j_aload_n hK dL_law_1258 2 rfl rfl ?_
  refine k_callVi hK (c_X11_laws h2) dL_law_1259 zclX11 zo_122 ml_L_182 mi_X11_laws mx_X11_laws in_X11 mc_X11_laws hy_X11_laws ⟨by decide, by decide⟩ rfl (Nat.le_of_ble_eq_true rfl) ?_
  refine j_icmp_eq hK 1595 dL_law_1262 (by decide) (fun _ => ?_) (fun hc => absurd rfl hc)
  exact nextI _ _ S2 (Nat.le_refl _) (Nat.le_refl _) hRel2 (Nat.le_succ _) (Nat.le_add_right _ _)
theorem law_c37 {Rel : St → Prop} (hE_listens : EQ1 Rel (f_X10_listens) (f_X11_listens)) {K : CT} {N : Nat} {xs : Nat → Int32} (hK : KO K cL_law RL 8 200 (some .boolean)) (hz : zroom K) (hsc : zSc K N xs) {i : Nat} (hi : i + 6 ≤ N) (hN : N ≤ 3072) {S : St} (hRel : Rel S) {vv : Int32} (hv37 : vv = (37 : Int32))
    (nextI : ∀ (nc' ns' : Nat) (S' : St), K.2.2.2.2.1 ≤ nc' → K.2.2.2.2.2 ≤ ns' → Rel S' → nc' ≤ K.2.2.2.2.1 + 1 → ns' ≤ K.2.2.2.2.2 + 6 → J (K.1, K.2.1, K.2.2.1, K.2.2.2.1, nc', ns') 1595 [(0, .ref 2000), (1, .ref 0), (2, .ref 122), (3, .ref 158), (4, .int (nI i))] [] S') : J K 40 [(0, .ref 2000), (1, .ref 0), (2, .ref 122), (3, .ref 158), (4, .int (nI i))] [.int vv] S := by
  refine j_tabC hK (37 : Int32) 1267 dL_law_40 hv37 (by decide) rfl (by decide) ?_
  refine j_aload_n hK dL_law_1267 1 rfl rfl ?_
  obtain ⟨r, S1, S2, h1, h2, hRel2⟩ := hE_listens S hRel
  refine k_callVi hK (c_X10_listens h1) dL_law_1268 zclX10 zo_0 ml_L_183 mi_X10_listens mx_X10_listens in_X10 mc_X10_listens hy_X10_listens ⟨by decide, by decide⟩ rfl (Nat.le_of_ble_eq_true rfl) ?_
  refine j_aload_n hK dL_law_1271 2 rfl rfl ?_
  refine k_callVi hK (c_X11_listens h2) dL_law_1272 zclX11 zo_122 ml_L_186 mi_X11_listens mx_X11_listens in_X11 mc_X11_listens hy_X11_listens ⟨by decide, by decide⟩ rfl (Nat.le_of_ble_eq_true rfl) ?_
  refine j_icmp_eq hK 1595 dL_law_1275 (by decide) (fun _ => ?_) (fun hc => absurd rfl hc)
  exact nextI _ _ S2 (Nat.le_refl _) (Nat.le_refl _) hRel2 (Nat.le_succ _) (Nat.le_add_right _ _)
theorem law_c38 {Rel : St → Prop} (hE_hints : ∀ a1 a2 a3 a4 a5 : Int32, EQ1 Rel (f_X10_hints a1 a2 a3 a4 a5) (f_X11_hints a1 a2 a3 a4 a5)) {K : CT} {N : Nat} {xs : Nat → Int32} (hK : KO K cL_law RL 8 200 (some .boolean)) (hz : zroom K) (hsc : zSc K N xs) {i : Nat} (hi : i + 6 ≤ N) (hN : N ≤ 3072) {S : St} (hRel : Rel S) {vv : Int32} (hv38 : vv = (38 : Int32))
    (nextI : ∀ (nc' ns' : Nat) (S' : St), K.2.2.2.2.1 ≤ nc' → K.2.2.2.2.2 ≤ ns' → Rel S' → nc' ≤ K.2.2.2.2.1 + 1 → ns' ≤ K.2.2.2.2.2 + 6 → J (K.1, K.2.1, K.2.2.1, K.2.2.2.1, nc', ns') 1595 [(0, .ref 2000), (1, .ref 0), (2, .ref 122), (3, .ref 158), (4, .int (nI i))] [] S') : J K 40 [(0, .ref 2000), (1, .ref 0), (2, .ref 122), (3, .ref 158), (4, .int (nI i))] [.int vv] S := by
  have hin1 : vp_in (nI i + (1 : Int32)) N := by have q := vp_in_nI (n := i + 1) (N := N) (by omega) (by omega); rwa [show nI (i + 1) = nI i + (1 : Int32) from (nI_add i 1).symm] at q
  have hin2 : vp_in (nI i + (2 : Int32)) N := by have q := vp_in_nI (n := i + 2) (N := N) (by omega) (by omega); rwa [show nI (i + 2) = nI i + (2 : Int32) from (nI_add i 2).symm] at q
  have hin3 : vp_in (nI i + (3 : Int32)) N := by have q := vp_in_nI (n := i + 3) (N := N) (by omega) (by omega); rwa [show nI (i + 3) = nI i + (3 : Int32) from (nI_add i 3).symm] at q
  have hin4 : vp_in (nI i + (4 : Int32)) N := by have q := vp_in_nI (n := i + 4) (N := N) (by omega) (by omega); rwa [show nI (i + 4) = nI i + (4 : Int32) from (nI_add i 4).symm] at q
  have hin5 : vp_in (nI i + (5 : Int32)) N := by have q := vp_in_nI (n := i + 5) (N := N) (by omega) (by omega); rwa [show nI (i + 5) = nI i + (5 : Int32) from (nI_add i 5).symm] at q
  refine j_tabC hK (38 : Int32) 1280 dL_law_40 hv38 (by decide) rfl (by decide) ?_
  refine j_aload_n hK dL_law_1280 1 rfl rfl ?_
  refine j_aload_n hK dL_law_1281 0 rfl rfl ?_
  refine j_iload hK dL_law_1282 4 rfl ?_
  refine j_iconst hK (1 : Int32) dL_law_1284 ic_1 ?_
  refine j_iadd hK dL_law_1285 ?_
  refine j_sld hK hsc dL_law_1286 hin1 ?_
  refine j_aload_n hK dL_law_1287 0 rfl rfl ?_
  refine j_iload hK dL_law_1288 4 rfl ?_
  refine j_iconst hK (2 : Int32) dL_law_1290 ic_2 ?_
  refine j_iadd hK dL_law_1291 ?_
  refine j_sld hK hsc dL_law_1292 hin2 ?_
  refine j_aload_n hK dL_law_1293 0 rfl rfl ?_
  refine j_iload hK dL_law_1294 4 rfl ?_
  refine j_iconst hK (3 : Int32) dL_law_1296 ic_3 ?_
  refine j_iadd hK dL_law_1297 ?_
  refine j_sld hK hsc dL_law_1298 hin3 ?_
  refine j_aload_n hK dL_law_1299 0 rfl rfl ?_
  refine j_iload hK dL_law_1300 4 rfl ?_
  refine j_iconst hK (4 : Int32) dL_law_1302 ic_4 ?_
  refine j_iadd hK dL_law_1303 ?_
  refine j_sld hK hsc dL_law_1304 hin4 ?_
  refine j_aload_n hK dL_law_1305 0 rfl rfl ?_
  refine j_iload hK dL_law_1306 4 rfl ?_
  refine j_iconst hK (5 : Int32) dL_law_1308 ic_5 ?_
  refine j_iadd hK dL_law_1309 ?_
  refine j_sld hK hsc dL_law_1310 hin5 ?_
  obtain ⟨r, S1, S2, h1, h2, hRel2⟩ := hE_hints (xs (nI i + (1 : Int32)).toNatClampNeg) (xs (nI i + (2 : Int32)).toNatClampNeg) (xs (nI i + (3 : Int32)).toNatClampNeg) (xs (nI i + (4 : Int32)).toNatClampNeg) (xs (nI i + (5 : Int32)).toNatClampNeg) S hRel
  refine k_callVi hK (c_X10_hints h1) dL_law_1311 zclX10 zo_0 ml_L_187 mi_X10_hints mx_X10_hints in_X10 mc_X10_hints hy_X10_hints ⟨by decide, by decide⟩ rfl (Nat.le_of_ble_eq_true rfl) ?_
  refine j_aload_n hK dL_law_1314 2 rfl rfl ?_
  refine j_aload_n hK dL_law_1315 0 rfl rfl ?_
  refine j_iload hK dL_law_1316 4 rfl ?_
  refine j_iconst hK (1 : Int32) dL_law_1318 ic_1 ?_
  refine j_iadd hK dL_law_1319 ?_
  refine j_sld hK hsc dL_law_1320 hin1 ?_
  refine j_aload_n hK dL_law_1321 0 rfl rfl ?_
  refine j_iload hK dL_law_1322 4 rfl ?_
  refine j_iconst hK (2 : Int32) dL_law_1324 ic_2 ?_
  refine j_iadd hK dL_law_1325 ?_
  refine j_sld hK hsc dL_law_1326 hin2 ?_
  refine j_aload_n hK dL_law_1327 0 rfl rfl ?_
  refine j_iload hK dL_law_1328 4 rfl ?_
  refine j_iconst hK (3 : Int32) dL_law_1330 ic_3 ?_
  refine j_iadd hK dL_law_1331 ?_
  refine j_sld hK hsc dL_law_1332 hin3 ?_
  refine j_aload_n hK dL_law_1333 0 rfl rfl ?_
  refine j_iload hK dL_law_1334 4 rfl ?_
  refine j_iconst hK (4 : Int32) dL_law_1336 ic_4 ?_
  refine j_iadd hK dL_law_1337 ?_
  refine j_sld hK hsc dL_law_1338 hin4 ?_
  refine j_aload_n hK dL_law_1339 0 rfl rfl ?_
  refine j_iload hK dL_law_1340 4 rfl ?_
  refine j_iconst hK (5 : Int32) dL_law_1342 ic_5 ?_
  refine j_iadd hK dL_law_1343 ?_
  refine j_sld hK hsc dL_law_1344 hin5 ?_
  refine k_callVi hK (c_X11_hints h2) dL_law_1345 zclX11 zo_122 ml_L_191 mi_X11_hints mx_X11_hints in_X11 mc_X11_hints hy_X11_hints ⟨by decide, by decide⟩ rfl (Nat.le_of_ble_eq_true rfl) ?_
  refine j_icmp_eq hK 1595 dL_law_1348 (by decide) (fun _ => ?_) (fun hc => absurd rfl hc)
  exact nextI _ _ S2 (Nat.le_refl _) (Nat.le_refl _) hRel2 (Nat.le_succ _) (Nat.le_add_right _ _)
theorem law_c39 {Rel : St → Prop} (hE_game : ∀ a1 a2 : Int32, EQ1 Rel (f_X10_game a1 a2) (f_X11_game a1 a2)) {K : CT} {N : Nat} {xs : Nat → Int32} (hK : KO K cL_law RL 8 200 (some .boolean)) (hz : zroom K) (hsc : zSc K N xs) {i : Nat} (hi : i + 6 ≤ N) (hN : N ≤ 3072) {S : St} (hRel : Rel S) {vv : Int32} (hv39 : vv = (39 : Int32))
    (nextI : ∀ (nc' ns' : Nat) (S' : St), K.2.2.2.2.1 ≤ nc' → K.2.2.2.2.2 ≤ ns' → Rel S' → nc' ≤ K.2.2.2.2.1 + 1 → ns' ≤ K.2.2.2.2.2 + 6 → J (K.1, K.2.1, K.2.2.1, K.2.2.2.1, nc', ns') 1595 [(0, .ref 2000), (1, .ref 0), (2, .ref 122), (3, .ref 158), (4, .int (nI i))] [] S') : J K 40 [(0, .ref 2000), (1, .ref 0), (2, .ref 122), (3, .ref 158), (4, .int (nI i))] [.int vv] S := by
  have hin1 : vp_in (nI i + (1 : Int32)) N := by have q := vp_in_nI (n := i + 1) (N := N) (by omega) (by omega); rwa [show nI (i + 1) = nI i + (1 : Int32) from (nI_add i 1).symm] at q
  have hin2 : vp_in (nI i + (2 : Int32)) N := by have q := vp_in_nI (n := i + 2) (N := N) (by omega) (by omega); rwa [show nI (i + 2) = nI i + (2 : Int32) from (nI_add i 2).symm] at q
  refine j_tabC hK (39 : Int32) 1353 dL_law_40 hv39 (by decide) rfl (by decide) ?_
  refine j_aload_n hK dL_law_1353 1 rfl rfl ?_
  refine j_aload_n hK dL_law_1354 0 rfl rfl ?_
  refine j_iload hK dL_law_1355 4 rfl ?_
  refine j_iconst hK (1 : Int32) dL_law_1357 ic_1 ?_
  refine j_iadd hK dL_law_1358 ?_
  refine j_sld hK hsc dL_law_1359 hin1 ?_
  refine j_aload_n hK dL_law_1360 0 rfl rfl ?_
  refine j_iload hK dL_law_1361 4 rfl ?_
  refine j_iconst hK (2 : Int32) dL_law_1363 ic_2 ?_
  refine j_iadd hK dL_law_1364 ?_
  refine j_sld hK hsc dL_law_1365 hin2 ?_
  obtain ⟨r, S1, S2, h1, h2, hRel2⟩ := hE_game (xs (nI i + (1 : Int32)).toNatClampNeg) (xs (nI i + (2 : Int32)).toNatClampNeg) S hRel
  refine k_callVi hK (c_X10_game h1) dL_law_1366 zclX10 zo_0 ml_L_192 mi_X10_game mx_X10_game in_X10 mc_X10_game hy_X10_game ⟨by decide, by decide⟩ rfl (Nat.le_of_ble_eq_true rfl) ?_
  refine j_aload_n hK dL_law_1369 2 rfl rfl ?_
  refine j_aload_n hK dL_law_1370 0 rfl rfl ?_
  refine j_iload hK dL_law_1371 4 rfl ?_
  refine j_iconst hK (1 : Int32) dL_law_1373 ic_1 ?_
  refine j_iadd hK dL_law_1374 ?_
  refine j_sld hK hsc dL_law_1375 hin1 ?_
  refine j_aload_n hK dL_law_1376 0 rfl rfl ?_
  refine j_iload hK dL_law_1377 4 rfl ?_
  refine j_iconst hK (2 : Int32) dL_law_1379 ic_2 ?_
  refine j_iadd hK dL_law_1380 ?_
  refine j_sld hK hsc dL_law_1381 hin2 ?_
  refine k_callVi hK (c_X11_game h2) dL_law_1382 zclX11 zo_122 ml_L_195 mi_X11_game mx_X11_game in_X11 mc_X11_game hy_X11_game ⟨by decide, by decide⟩ rfl (Nat.le_of_ble_eq_true rfl) ?_
  refine j_icmp_eq hK 1595 dL_law_1385 (by decide) (fun _ => ?_) (fun hc => absurd rfl hc)
  exact nextI _ _ S2 (Nat.le_refl _) (Nat.le_refl _) hRel2 (Nat.le_succ _) (Nat.le_add_right _ _)
theorem law_c40 {Rel : St → Prop} (hE_law : EQ1 Rel (f_X10_law) (f_X11_law)) {K : CT} {N : Nat} {xs : Nat → Int32} (hK : KO K cL_law RL 8 200 (some .boolean)) (hz : zroom K) (hsc : zSc K N xs) {i : Nat} (hi : i + 6 ≤ N) (hN : N ≤ 3072) {S : St} (hRel : Rel S) {vv : Int32} (hv40 : vv = (40 : Int32))
    (nextI : ∀ (nc' ns' : Nat) (S' : St), K.2.2.2.2.1 ≤ nc' → K.2.2.2.2.2 ≤ ns' → Rel S' → nc' ≤ K.2.2.2.2.1 + 1 → ns' ≤ K.2.2.2.2.2 + 6 → J (K.1, K.2.1, K.2.2.1, K.2.2.2.1, nc', ns') 1595 [(0, .ref 2000), (1, .ref 0), (2, .ref 122), (3, .ref 158), (4, .int (nI i))] [] S') : J K 40 [(0, .ref 2000), (1, .ref 0), (2, .ref 122), (3, .ref 158), (4, .int (nI i))] [.int vv] S := by
  refine j_tabC hK (40 : Int32) 1390 dL_law_40 hv40 (by decide) rfl (by decide) ?_
  refine j_aload_n hK dL_law_1390 1 rfl rfl ?_
  obtain ⟨r, S1, S2, h1, h2, hRel2⟩ := hE_law S hRel
  refine k_callVi hK (c_X10_law h1) dL_law_1391 zclX10 zo_0 ml_L_196 mi_X10_law mx_X10_law in_X10 mc_X10_law hy_X10_law ⟨by decide, by decide⟩ rfl (Nat.le_of_ble_eq_true rfl) ?_
  refine j_aload_n hK dL_law_1394 2 rfl rfl ?_
  refine k_callVi hK (c_X11_law h2) dL_law_1395 zclX11 zo_122 ml_L_199 mi_X11_law mx_X11_law in_X11 mc_X11_law hy_X11_law ⟨by decide, by decide⟩ rfl (Nat.le_of_ble_eq_true rfl) ?_
  refine j_icmp_eq hK 1595 dL_law_1398 (by decide) (fun _ => ?_) (fun hc => absurd rfl hc)
  exact nextI _ _ S2 (Nat.le_refl _) (Nat.le_refl _) hRel2 (Nat.le_succ _) (Nat.le_add_right _ _)
theorem law_c41 {Rel : St → Prop} (hE_rests : ∀ a1 : Int32, EQ1 Rel (f_X10_rests a1) (f_X11_rests a1)) {K : CT} {N : Nat} {xs : Nat → Int32} (hK : KO K cL_law RL 8 200 (some .boolean)) (hz : zroom K) (hsc : zSc K N xs) {i : Nat} (hi : i + 6 ≤ N) (hN : N ≤ 3072) {S : St} (hRel : Rel S) {vv : Int32} (hv41 : vv = (41 : Int32))
    (nextI : ∀ (nc' ns' : Nat) (S' : St), K.2.2.2.2.1 ≤ nc' → K.2.2.2.2.2 ≤ ns' → Rel S' → nc' ≤ K.2.2.2.2.1 + 1 → ns' ≤ K.2.2.2.2.2 + 6 → J (K.1, K.2.1, K.2.2.1, K.2.2.2.1, nc', ns') 1595 [(0, .ref 2000), (1, .ref 0), (2, .ref 122), (3, .ref 158), (4, .int (nI i))] [] S') : J K 40 [(0, .ref 2000), (1, .ref 0), (2, .ref 122), (3, .ref 158), (4, .int (nI i))] [.int vv] S := by
  have hin1 : vp_in (nI i + (1 : Int32)) N := by have q := vp_in_nI (n := i + 1) (N := N) (by omega) (by omega); rwa [show nI (i + 1) = nI i + (1 : Int32) from (nI_add i 1).symm] at q
  refine j_tabC hK (41 : Int32) 1403 dL_law_40 hv41 (by decide) rfl (by decide) ?_
  refine j_aload_n hK dL_law_1403 1 rfl rfl ?_
  refine j_aload_n hK dL_law_1404 0 rfl rfl ?_
  refine j_iload hK dL_law_1405 4 rfl ?_
  refine j_iconst hK (1 : Int32) dL_law_1407 ic_1 ?_
  refine j_iadd hK dL_law_1408 ?_
  refine j_sld hK hsc dL_law_1409 hin1 ?_
  obtain ⟨r, S1, S2, h1, h2, hRel2⟩ := hE_rests (xs (nI i + (1 : Int32)).toNatClampNeg) S hRel
  refine k_callVi hK (c_X10_rests h1) dL_law_1410 zclX10 zo_0 ml_L_200 mi_X10_rests mx_X10_rests in_X10 mc_X10_rests hy_X10_rests ⟨by decide, by decide⟩ rfl (Nat.le_of_ble_eq_true rfl) ?_
  refine j_aload_n hK dL_law_1413 2 rfl rfl ?_
  refine j_aload_n hK dL_law_1414 0 rfl rfl ?_
  refine j_iload hK dL_law_1415 4 rfl ?_
  refine j_iconst hK (1 : Int32) dL_law_1417 ic_1 ?_
  refine j_iadd hK dL_law_1418 ?_
  refine j_sld hK hsc dL_law_1419 hin1 ?_
  refine k_callVi hK (c_X11_rests h2) dL_law_1420 zclX11 zo_122 ml_L_203 mi_X11_rests mx_X11_rests in_X11 mc_X11_rests hy_X11_rests ⟨by decide, by decide⟩ rfl (Nat.le_of_ble_eq_true rfl) ?_
  refine j_icmp_eq hK 1595 dL_law_1423 (by decide) (fun _ => ?_) (fun hc => absurd rfl hc)
  exact nextI _ _ S2 (Nat.le_refl _) (Nat.le_refl _) hRel2 (Nat.le_succ _) (Nat.le_add_right _ _)
theorem law_c42 {Rel : St → Prop} (hE_years : ∀ a1 a2 : Int32, EQ1 Rel (f_X10_years a1 a2) (f_X11_years a1 a2)) {K : CT} {N : Nat} {xs : Nat → Int32} (hK : KO K cL_law RL 8 200 (some .boolean)) (hz : zroom K) (hsc : zSc K N xs) {i : Nat} (hi : i + 6 ≤ N) (hN : N ≤ 3072) {S : St} (hRel : Rel S) {vv : Int32} (hv42 : vv = (42 : Int32))
    (nextI : ∀ (nc' ns' : Nat) (S' : St), K.2.2.2.2.1 ≤ nc' → K.2.2.2.2.2 ≤ ns' → Rel S' → nc' ≤ K.2.2.2.2.1 + 1 → ns' ≤ K.2.2.2.2.2 + 6 → J (K.1, K.2.1, K.2.2.1, K.2.2.2.1, nc', ns') 1595 [(0, .ref 2000), (1, .ref 0), (2, .ref 122), (3, .ref 158), (4, .int (nI i))] [] S') : J K 40 [(0, .ref 2000), (1, .ref 0), (2, .ref 122), (3, .ref 158), (4, .int (nI i))] [.int vv] S := by
  have hin1 : vp_in (nI i + (1 : Int32)) N := by have q := vp_in_nI (n := i + 1) (N := N) (by omega) (by omega); rwa [show nI (i + 1) = nI i + (1 : Int32) from (nI_add i 1).symm] at q
  have hin2 : vp_in (nI i + (2 : Int32)) N := by have q := vp_in_nI (n := i + 2) (N := N) (by omega) (by omega); rwa [show nI (i + 2) = nI i + (2 : Int32) from (nI_add i 2).symm] at q
  refine j_tabC hK (42 : Int32) 1428 dL_law_40 hv42 (by decide) rfl (by decide) ?_
  refine j_aload_n hK dL_law_1428 1 rfl rfl ?_
  refine j_aload_n hK dL_law_1429 0 rfl rfl ?_
  refine j_iload hK dL_law_1430 4 rfl ?_
  refine j_iconst hK (1 : Int32) dL_law_1432 ic_1 ?_
  refine j_iadd hK dL_law_1433 ?_
  refine j_sld hK hsc dL_law_1434 hin1 ?_
  refine j_aload_n hK dL_law_1435 0 rfl rfl ?_
  refine j_iload hK dL_law_1436 4 rfl ?_
  refine j_iconst hK (2 : Int32) dL_law_1438 ic_2 ?_
  refine j_iadd hK dL_law_1439 ?_
  refine j_sld hK hsc dL_law_1440 hin2 ?_
  obtain ⟨r, S1, S2, h1, h2, hRel2⟩ := hE_years (xs (nI i + (1 : Int32)).toNatClampNeg) (xs (nI i + (2 : Int32)).toNatClampNeg) S hRel
  refine k_callVi hK (c_X10_years h1) dL_law_1441 zclX10 zo_0 ml_L_204 mi_X10_years mx_X10_years in_X10 mc_X10_years hy_X10_years ⟨by decide, by decide⟩ rfl (Nat.le_of_ble_eq_true rfl) ?_
  refine j_aload_n hK dL_law_1444 2 rfl rfl ?_
  refine j_aload_n hK dL_law_1445 0 rfl rfl ?_
  refine j_iload hK dL_law_1446 4 rfl ?_
  refine j_iconst hK (1 : Int32) dL_law_1448 ic_1 ?_
  refine j_iadd hK dL_law_1449 ?_
  refine j_sld hK hsc dL_law_1450 hin1 ?_
  refine j_aload_n hK dL_law_1451 0 rfl rfl ?_
  refine j_iload hK dL_law_1452 4 rfl ?_
  refine j_iconst hK (2 : Int32) dL_law_1454 ic_2 ?_
  refine j_iadd hK dL_law_1455 ?_
  refine j_sld hK hsc dL_law_1456 hin2 ?_
  refine k_callVi hK (c_X11_years h2) dL_law_1457 zclX11 zo_122 ml_L_207 mi_X11_years mx_X11_years in_X11 mc_X11_years hy_X11_years ⟨by decide, by decide⟩ rfl (Nat.le_of_ble_eq_true rfl) ?_
  refine j_icmp_eq hK 1595 dL_law_1460 (by decide) (fun _ => ?_) (fun hc => absurd rfl hc)
  exact nextI _ _ S2 (Nat.le_refl _) (Nat.le_refl _) hRel2 (Nat.le_succ _) (Nat.le_add_right _ _)
theorem law_c43 {Rel : St → Prop} (hE_keep : ∀ a1 : Int32, EQ1 Rel (f_X10_keep a1) (f_X11_keep a1)) {K : CT} {N : Nat} {xs : Nat → Int32} (hK : KO K cL_law RL 8 200 (some .boolean)) (hz : zroom K) (hsc : zSc K N xs) {i : Nat} (hi : i + 6 ≤ N) (hN : N ≤ 3072) {S : St} (hRel : Rel S) {vv : Int32} (hv43 : vv = (43 : Int32))
    (nextI : ∀ (nc' ns' : Nat) (S' : St), K.2.2.2.2.1 ≤ nc' → K.2.2.2.2.2 ≤ ns' → Rel S' → nc' ≤ K.2.2.2.2.1 + 1 → ns' ≤ K.2.2.2.2.2 + 6 → J (K.1, K.2.1, K.2.2.1, K.2.2.2.1, nc', ns') 1595 [(0, .ref 2000), (1, .ref 0), (2, .ref 122), (3, .ref 158), (4, .int (nI i))] [] S') : J K 40 [(0, .ref 2000), (1, .ref 0), (2, .ref 122), (3, .ref 158), (4, .int (nI i))] [.int vv] S := by
  have hin1 : vp_in (nI i + (1 : Int32)) N := by have q := vp_in_nI (n := i + 1) (N := N) (by omega) (by omega); rwa [show nI (i + 1) = nI i + (1 : Int32) from (nI_add i 1).symm] at q
  refine j_tabC hK (43 : Int32) 1465 dL_law_40 hv43 (by decide) rfl (by decide) ?_
  refine j_aload_n hK dL_law_1465 1 rfl rfl ?_
  refine j_aload_n hK dL_law_1466 0 rfl rfl ?_
  refine j_iload hK dL_law_1467 4 rfl ?_
  refine j_iconst hK (1 : Int32) dL_law_1469 ic_1 ?_
  refine j_iadd hK dL_law_1470 ?_
  refine j_sld hK hsc dL_law_1471 hin1 ?_
  obtain ⟨r, S1, S2, h1, h2, hRel2⟩ := hE_keep (xs (nI i + (1 : Int32)).toNatClampNeg) S hRel
  refine k_callVi hK (c_X10_keep h1) dL_law_1472 zclX10 zo_0 ml_L_208 mi_X10_keep mx_X10_keep in_X10 mc_X10_keep hy_X10_keep ⟨by decide, by decide⟩ rfl (Nat.le_of_ble_eq_true rfl) ?_
  refine j_aload_n hK dL_law_1475 2 rfl rfl ?_
  refine j_aload_n hK dL_law_1476 0 rfl rfl ?_
  refine j_iload hK dL_law_1477 4 rfl ?_
  refine j_iconst hK (1 : Int32) dL_law_1479 ic_1 ?_
  refine j_iadd hK dL_law_1480 ?_
  refine j_sld hK hsc dL_law_1481 hin1 ?_
  refine k_callVi hK (c_X11_keep h2) dL_law_1482 zclX11 zo_122 ml_L_211 mi_X11_keep mx_X11_keep in_X11 mc_X11_keep hy_X11_keep ⟨by decide, by decide⟩ rfl (Nat.le_of_ble_eq_true rfl) ?_
  refine j_icmp_eq hK 1595 dL_law_1485 (by decide) (fun _ => ?_) (fun hc => absurd rfl hc)
  exact nextI _ _ S2 (Nat.le_refl _) (Nat.le_refl _) hRel2 (Nat.le_succ _) (Nat.le_add_right _ _)
theorem law_c44 {Rel : St → Prop} (hE_again : ∀ a1 : Int32, EQ1 Rel (f_X10_again a1) (f_X11_again a1)) {K : CT} {N : Nat} {xs : Nat → Int32} (hK : KO K cL_law RL 8 200 (some .boolean)) (hz : zroom K) (hsc : zSc K N xs) {i : Nat} (hi : i + 6 ≤ N) (hN : N ≤ 3072) {S : St} (hRel : Rel S) {vv : Int32} (hv44 : vv = (44 : Int32))
    (nextI : ∀ (nc' ns' : Nat) (S' : St), K.2.2.2.2.1 ≤ nc' → K.2.2.2.2.2 ≤ ns' → Rel S' → nc' ≤ K.2.2.2.2.1 + 1 → ns' ≤ K.2.2.2.2.2 + 6 → J (K.1, K.2.1, K.2.2.1, K.2.2.2.1, nc', ns') 1595 [(0, .ref 2000), (1, .ref 0), (2, .ref 122), (3, .ref 158), (4, .int (nI i))] [] S') : J K 40 [(0, .ref 2000), (1, .ref 0), (2, .ref 122), (3, .ref 158), (4, .int (nI i))] [.int vv] S := by
  have hin1 : vp_in (nI i + (1 : Int32)) N := by have q := vp_in_nI (n := i + 1) (N := N) (by omega) (by omega); rwa [show nI (i + 1) = nI i + (1 : Int32) from (nI_add i 1).symm] at q
  refine j_tabC hK (44 : Int32) 1490 dL_law_40 hv44 (by decide) rfl (by decide) ?_
  refine j_aload_n hK dL_law_1490 1 rfl rfl ?_
  refine j_aload_n hK dL_law_1491 0 rfl rfl ?_
  refine j_iload hK dL_law_1492 4 rfl ?_
  refine j_iconst hK (1 : Int32) dL_law_1494 ic_1 ?_
  refine j_iadd hK dL_law_1495 ?_
  refine j_sld hK hsc dL_law_1496 hin1 ?_
  obtain ⟨r, S1, S2, h1, h2, hRel2⟩ := hE_again (xs (nI i + (1 : Int32)).toNatClampNeg) S hRel
  refine k_callVi hK (c_X10_again h1) dL_law_1497 zclX10 zo_0 ml_L_212 mi_X10_again mx_X10_again in_X10 mc_X10_again hy_X10_again ⟨by decide, by decide⟩ rfl (Nat.le_of_ble_eq_true rfl) ?_
  refine j_aload_n hK dL_law_1500 2 rfl rfl ?_
  refine j_aload_n hK dL_law_1501 0 rfl rfl ?_
  refine j_iload hK dL_law_1502 4 rfl ?_
  refine j_iconst hK (1 : Int32) dL_law_1504 ic_1 ?_
  refine j_iadd hK dL_law_1505 ?_
  refine j_sld hK hsc dL_law_1506 hin1 ?_
  refine k_callVi hK (c_X11_again h2) dL_law_1507 zclX11 zo_122 ml_L_215 mi_X11_again mx_X11_again in_X11 mc_X11_again hy_X11_again ⟨by decide, by decide⟩ rfl (Nat.le_of_ble_eq_true rfl) ?_
  refine j_icmp_eq hK 1595 dL_law_1510 (by decide) (fun _ => ?_) (fun hc => absurd rfl hc)
  exact nextI _ _ S2 (Nat.le_refl _) (Nat.le_refl _) hRel2 (Nat.le_succ _) (Nat.le_add_right _ _)
theorem law_c45 {Rel : St → Prop} (hE_count : ∀ a1 : Int32, EQ1 Rel (f_X10_count a1) (f_X11_count a1)) {K : CT} {N : Nat} {xs : Nat → Int32} (hK : KO K cL_law RL 8 200 (some .boolean)) (hz : zroom K) (hsc : zSc K N xs) {i : Nat} (hi : i + 6 ≤ N) (hN : N ≤ 3072) {S : St} (hRel : Rel S) {vv : Int32} (hv45 : vv = (45 : Int32))
    (nextI : ∀ (nc' ns' : Nat) (S' : St), K.2.2.2.2.1 ≤ nc' → K.2.2.2.2.2 ≤ ns' → Rel S' → nc' ≤ K.2.2.2.2.1 + 1 → ns' ≤ K.2.2.2.2.2 + 6 → J (K.1, K.2.1, K.2.2.1, K.2.2.2.1, nc', ns') 1595 [(0, .ref 2000), (1, .ref 0), (2, .ref 122), (3, .ref 158), (4, .int (nI i))] [] S') : J K 40 [(0, .ref 2000), (1, .ref 0), (2, .ref 122), (3, .ref 158), (4, .int (nI i))] [.int vv] S := by
  have hin1 : vp_in (nI i + (1 : Int32)) N := by have q := vp_in_nI (n := i + 1) (N := N) (by omega) (by omega); rwa [show nI (i + 1) = nI i + (1 : Int32) from (nI_add i 1).symm] at q
  refine j_tabC hK (45 : Int32) 1515 dL_law_40 hv45 (by decide) rfl (by decide) ?_
  refine j_aload_n hK dL_law_1515 1 rfl rfl ?_
  refine j_aload_n hK dL_law_1516 0 rfl rfl ?_
  refine j_iload hK dL_law_1517 4 rfl ?_
  refine j_iconst hK (1 : Int32) dL_law_1519 ic_1 ?_
  refine j_iadd hK dL_law_1520 ?_
  refine j_sld hK hsc dL_law_1521 hin1 ?_
  obtain ⟨r, S1, S2, h1, h2, hRel2⟩ := hE_count (xs (nI i + (1 : Int32)).toNatClampNeg) S hRel
  refine k_callVi hK (c_X10_count h1) dL_law_1522 zclX10 zo_0 ml_L_216 mi_X10_count mx_X10_count in_X10 mc_X10_count hy_X10_count ⟨by decide, by decide⟩ rfl (Nat.le_of_ble_eq_true rfl) ?_
  refine j_aload_n hK dL_law_1525 2 rfl rfl ?_
  refine j_aload_n hK dL_law_1526 0 rfl rfl ?_
  refine j_iload hK dL_law_1527 4 rfl ?_
  refine j_iconst hK (1 : Int32) dL_law_1529 ic_1 ?_
  refine j_iadd hK dL_law_1530 ?_
  refine j_sld hK hsc dL_law_1531 hin1 ?_
  refine k_callVi hK (c_X11_count h2) dL_law_1532 zclX11 zo_122 ml_L_219 mi_X11_count mx_X11_count in_X11 mc_X11_count hy_X11_count ⟨by decide, by decide⟩ rfl (Nat.le_of_ble_eq_true rfl) ?_
  refine j_icmp_eq hK 1595 dL_law_1535 (by decide) (fun _ => ?_) (fun hc => absurd rfl hc)
  exact nextI _ _ S2 (Nat.le_refl _) (Nat.le_refl _) hRel2 (Nat.le_succ _) (Nat.le_add_right _ _)
theorem law_c46 {Rel : St → Prop} (hE_row : ∀ a1 : Int32, EQX Rel (fun v : Int64 => v) (fun v : Int64 => v) (f_X10_row a1) (f_X11_row a1)) {K : CT} {N : Nat} {xs : Nat → Int32} (hK : KO K cL_law RL 8 200 (some .boolean)) (hz : zroom K) (hsc : zSc K N xs) {i : Nat} (hi : i + 6 ≤ N) (hN : N ≤ 3072) {S : St} (hRel : Rel S) {vv : Int32} (hv46 : vv = (46 : Int32))
    (nextI : ∀ (nc' ns' : Nat) (S' : St), K.2.2.2.2.1 ≤ nc' → K.2.2.2.2.2 ≤ ns' → Rel S' → nc' ≤ K.2.2.2.2.1 + 1 → ns' ≤ K.2.2.2.2.2 + 6 → J (K.1, K.2.1, K.2.2.1, K.2.2.2.1, nc', ns') 1595 [(0, .ref 2000), (1, .ref 0), (2, .ref 122), (3, .ref 158), (4, .int (nI i))] [] S') : J K 40 [(0, .ref 2000), (1, .ref 0), (2, .ref 122), (3, .ref 158), (4, .int (nI i))] [.int vv] S := by
  have hin1 : vp_in (nI i + (1 : Int32)) N := by have q := vp_in_nI (n := i + 1) (N := N) (by omega) (by omega); rwa [show nI (i + 1) = nI i + (1 : Int32) from (nI_add i 1).symm] at q
  refine j_tabC hK (46 : Int32) 1540 dL_law_40 hv46 (by decide) rfl (by decide) ?_
  refine j_aload_n hK dL_law_1540 1 rfl rfl ?_
  refine j_aload_n hK dL_law_1541 0 rfl rfl ?_
  refine j_iload hK dL_law_1542 4 rfl ?_
  refine j_iconst hK (1 : Int32) dL_law_1544 ic_1 ?_
  refine j_iadd hK dL_law_1545 ?_
  refine j_sld hK hsc dL_law_1546 hin1 ?_
  refine j_aload_n hK dL_law_1547 3 rfl rfl ?_
  obtain ⟨o, S1, r, S2, S3, h1, h2, h3, h4, hRel3⟩ := hE_row (xs (nI i + (1 : Int32)).toNatClampNeg) S hRel
  refine j_callH hK (c_L_row h1) hz dL_law_1548 ml_L_220 ms_L_row in_L mw_L_row hy_L_row ⟨by decide, by decide⟩ rfl (Nat.le_of_ble_eq_true rfl) ?_
  have hK' := KO_up hK hz
  have hsc' := zSc_up hsc
  obtain ⟨ko, hko⟩ : ∃ k, xK o = k := ⟨_, rfl⟩
  rw [hko] at h3 ⊢
  refine j_istore hK' (L' := [(5, .int ko), (0, .ref 2000), (1, .ref 0), (2, .ref 122), (3, .ref 158), (4, .int (nI i))]) dL_law_1551 (by decide) rfl ?_
  refine j_aload_n hK' dL_law_1553 3 rfl rfl ?_
  refine j_aload_n hK' dL_law_1554 1 rfl rfl ?_
  refine j_iload hK' dL_law_1555 5 rfl ?_
  refine j_iconst hK' (1 : Int32) dL_law_1557 ic_1 ?_
  refine j_iadd hK' dL_law_1558 ?_
  refine j_sld hK' hsc' dL_law_1559 hin1 ?_
  refine k_callVl hK' (c_X11_row h2) dL_law_1560 zclX11 zo_122 ml_L_223 mi_X11_row mx_X11_row in_X11 mc_X11_row hy_X11_row ⟨by decide, by decide⟩ rfl (Nat.le_of_ble_eq_true rfl) ?_
  refine j_lstore hK' (L' := [(6, .long r), (5, .int ko), (0, .ref 2000), (1, .ref 0), (2, .ref 122), (3, .ref 158), (4, .int (nI i))]) dL_law_1563 (by decide) rfl ?_
  refine j_aload_n hK' dL_law_1565 4 rfl rfl ?_
  refine k_callVi hK' (c_X11_thrown h3) dL_law_1566 zclX11 zo_122 ml_L_51 mi_X11_thrown mx_X11_thrown in_X11 mc_X11_thrown hy_X11_thrown ⟨by decide, by decide⟩ rfl (Nat.le_of_ble_eq_true rfl) ?_
  refine j_iload hK' dL_law_1569 1 rfl ?_
  refine j_icmp_eq hK' 1576 dL_law_1571 (by decide) (fun _ => ?_) (fun hc => absurd rfl hc)
  refine j_iload hK' dL_law_1576 1 rfl ?_
  refine j_if_ne hK' 1592 dL_law_1578 (by decide) (fun hc => ?_) (fun hc0 => ?_)
  · refine j_goto hK' 1595 dL_law_1592 (by decide) ?_
    refine j_sub [2, 3, 4, 5, 6] rfl ?_
    exact nextI _ _ S3 (Nat.le_succ _) (Nat.le_add_right _ _) hRel3 (Nat.le_refl _) (Nat.le_refl _)
  · have hc : ¬ ¬ ko = 0 := fun h => h hc0
    refine j_aload_n hK' dL_law_1581 5 rfl rfl ?_
    refine j_iconst hK' (0 : Int32) dL_law_1582 ic_0 ?_
    refine k_lald hK' dL_law_1583 zb_158 (by decide) tn_0 ?_
    refine j_lload hK' dL_law_1584 0 rfl ?_
    refine j_lcmp hK' dL_law_1586 ?_
    have hk4 : lg_cmp (gL S3 158 0) r = 0 := by
      have : o.isSome = true := by cases o with | none => (exfalso; rw [← hko] at hc0; exact absurd hc0 (by decide)) | some _ => rfl
      rw [h4 this]; exact lg_self _
    refine j_if_eq hK' 1592 dL_law_1587 (by decide) (fun _ => ?_) (fun hc => absurd hk4 hc)
    refine j_goto hK' 1595 dL_law_1592 (by decide) ?_
    refine j_sub [2, 3, 4, 5, 6] rfl ?_
    exact nextI _ _ S3 (Nat.le_succ _) (Nat.le_add_right _ _) hRel3 (Nat.le_refl _) (Nat.le_refl _)
set_option maxRecDepth 100000 in
theorem law_sw {Rel : St → Prop} (hE_sign : ∀ a1 : Int32, EQ1 Rel (f_X10_sign a1) (f_X11_sign a1))
    (hE_end : ∀ a1 : Int32, EQ1 Rel (f_X10_end a1) (f_X11_end a1))
    (hE_passages : EQ1 Rel (f_X10_passages) (f_X11_passages))
    (hE_rule : EQ1 Rel (f_X10_rule) (f_X11_rule))
    (hE_passage : ∀ a1 a2 : Int32, EQX Rel (fun v : Int32 => v.toInt64) (fun v : Int32 => v.toInt64) (f_X10_passage a1 a2) (f_X11_passage a1 a2))
    (hE_cavern : ∀ a1 a2 : Int32, EQX Rel (fun v : Int32 => v.toInt64) (fun v : Int32 => v.toInt64) (f_X10_cavern a1 a2) (f_X11_cavern a1 a2))
    (hE_sheet : ∀ a1 a2 a3 a4 : Int32, EQ1 Rel (f_X10_sheet a1 a2 a3 a4) (f_X11_sheet a1 a2 a3 a4))
    (hE_calls : ∀ a1 a2 : Int32, EQ1 Rel (f_X10_calls a1 a2) (f_X11_calls a1 a2))
    (hE_hours : ∀ a1 : Int32, EQ1 Rel (f_X10_hours a1) (f_X11_hours a1))
    (hE_falls : ∀ a1 : Int32, EQ1 Rel (f_X10_falls a1) (f_X11_falls a1))
    (hE_digs : ∀ a1 a2 a3 : Int32, EQ1 Rel (f_X10_digs a1 a2 a3) (f_X11_digs a1 a2 a3))
    (hE_season : EQ1 Rel (f_X10_season) (f_X11_season))
    (hE_undo : EQ1 Rel (f_X10_undo) (f_X11_undo))
    (hE_route : ∀ a1 a2 : Int32, EQ1 Rel (f_X10_route a1 a2) (f_X11_route a1 a2))
    (hE_hears : ∀ a1 a2 : Int32, EQ1 Rel (f_X10_hears a1 a2) (f_X11_hears a1 a2))
    (hE_asks : ∀ a1 a2 : Int32, EQ1 Rel (f_X10_asks a1 a2) (f_X11_asks a1 a2))
    (hE_becomes : EQ1 Rel (f_X10_becomes) (f_X11_becomes))
    (hE_keeps : ∀ a1 a2 : Int32, EQ1 Rel (f_X10_keeps a1 a2) (f_X11_keeps a1 a2))
    (hE_apart : ∀ a1 a2 a3 : Int32, EQ1 Rel (f_X10_apart a1 a2 a3) (f_X11_apart a1 a2 a3))
    (hE_longest : ∀ a1 : Int32, EQ1 Rel (f_X10_longest a1) (f_X11_longest a1))
    (hE_rounds : EQ1 Rel (f_X10_rounds) (f_X11_rounds))
    (hE_way : ∀ a1 a2 : Int32, EQ1 Rel (f_X10_way a1 a2) (f_X11_way a1 a2))
    (hE_meets : ∀ a1 a2 : Int32, EQ1 Rel (f_X10_meets a1 a2) (f_X11_meets a1 a2))
    (hE_heart : EQ1 Rel (f_X10_heart) (f_X11_heart))
    (hE_ropes : EQ1 Rel (f_X10_ropes) (f_X11_ropes))
    (hE_needed : EQ1 Rel (f_X10_needed) (f_X11_needed))
    (hE_tour : ∀ a1 a2 : Int32, EQ1 Rel (f_X10_tour a1 a2) (f_X11_tour a1 a2))
    (hE_halves : EQ1 Rel (f_X10_halves) (f_X11_halves))
    (hE_guides : EQ1 Rel (f_X10_guides) (f_X11_guides))
    (hE_most : EQ1 Rel (f_X10_most) (f_X11_most))
    (hE_told : ∀ a1 a2 : Int32, EQ1 Rel (f_X10_told a1 a2) (f_X11_told a1 a2))
    (hE_forget : EQ1 Rel (f_X10_forget) (f_X11_forget))
    (hE_fits : EQ1 Rel (f_X10_fits) (f_X11_fits))
    (hE_next : EQ1 Rel (f_X10_next) (f_X11_next))
    (hE_heard : ∀ a1 a2 a3 : Int32, EQ1 Rel (f_X10_heard a1 a2 a3) (f_X11_heard a1 a2 a3))
    (hE_denied : EQ1 Rel (f_X10_denied) (f_X11_denied))
    (hE_laws : EQ1 Rel (f_X10_laws) (f_X11_laws))
    (hE_listens : EQ1 Rel (f_X10_listens) (f_X11_listens))
    (hE_hints : ∀ a1 a2 a3 a4 a5 : Int32, EQ1 Rel (f_X10_hints a1 a2 a3 a4 a5) (f_X11_hints a1 a2 a3 a4 a5))
    (hE_game : ∀ a1 a2 : Int32, EQ1 Rel (f_X10_game a1 a2) (f_X11_game a1 a2))
    (hE_law : EQ1 Rel (f_X10_law) (f_X11_law))
    (hE_rests : ∀ a1 : Int32, EQ1 Rel (f_X10_rests a1) (f_X11_rests a1))
    (hE_years : ∀ a1 a2 : Int32, EQ1 Rel (f_X10_years a1 a2) (f_X11_years a1 a2))
    (hE_keep : ∀ a1 : Int32, EQ1 Rel (f_X10_keep a1) (f_X11_keep a1))
    (hE_again : ∀ a1 : Int32, EQ1 Rel (f_X10_again a1) (f_X11_again a1))
    (hE_count : ∀ a1 : Int32, EQ1 Rel (f_X10_count a1) (f_X11_count a1))
    (hE_row : ∀ a1 : Int32, EQX Rel (fun v : Int64 => v) (fun v : Int64 => v) (f_X10_row a1) (f_X11_row a1))
    {K : CT} {N : Nat} {xs : Nat → Int32} (hK : KO K cL_law RL 8 200 (some .boolean)) (hz : zroom K) (hsc : zSc K N xs) {i : Nat} (hi : i + 6 ≤ N) (hN : N ≤ 3072) {S : St} (hRel : Rel S) {vv : Int32}
    (nextI : ∀ (nc' ns' : Nat) (S' : St), K.2.2.2.2.1 ≤ nc' → K.2.2.2.2.2 ≤ ns' → Rel S' → nc' ≤ K.2.2.2.2.1 + 1 → ns' ≤ K.2.2.2.2.2 + 6 → J (K.1, K.2.1, K.2.2.1, K.2.2.2.1, nc', ns') 1595 [(0, .ref 2000), (1, .ref 0), (2, .ref 122), (3, .ref 158), (4, .int (nI i))] [] S') : J K 40 [(0, .ref 2000), (1, .ref 0), (2, .ref 122), (3, .ref 158), (4, .int (nI i))] [.int vv] S := by
  by_cases hv0 : vv = (0 : Int32)
  · exact law_c0 hE_sign hK hz hsc hi hN hRel hv0 nextI
  by_cases hv1 : vv = (1 : Int32)
  · exact law_c1 hE_end hK hz hsc hi hN hRel hv1 nextI
  by_cases hv2 : vv = (2 : Int32)
  · exact law_c2 hE_passages hK hz hsc hi hN hRel hv2 nextI
  by_cases hv3 : vv = (3 : Int32)
  · exact law_c3 hE_rule hK hz hsc hi hN hRel hv3 nextI
  by_cases hv4 : vv = (4 : Int32)
  · exact law_c4 hE_passage hK hz hsc hi hN hRel hv4 nextI
  by_cases hv5 : vv = (5 : Int32)
  · exact law_c5 hE_cavern hK hz hsc hi hN hRel hv5 nextI
  by_cases hv6 : vv = (6 : Int32)
  · exact law_c6 hE_sheet hK hz hsc hi hN hRel hv6 nextI
  by_cases hv7 : vv = (7 : Int32)
  · exact law_c7 hE_calls hK hz hsc hi hN hRel hv7 nextI
  by_cases hv8 : vv = (8 : Int32)
  · exact law_c8 hE_hours hK hz hsc hi hN hRel hv8 nextI
  by_cases hv9 : vv = (9 : Int32)
  · exact law_c9 hE_falls hK hz hsc hi hN hRel hv9 nextI
  by_cases hv10 : vv = (10 : Int32)
  · exact law_c10 hE_digs hK hz hsc hi hN hRel hv10 nextI
  by_cases hv11 : vv = (11 : Int32)
  · exact law_c11 hE_season hK hz hsc hi hN hRel hv11 nextI
  by_cases hv12 : vv = (12 : Int32)
  · exact law_c12 hE_undo hK hz hsc hi hN hRel hv12 nextI
  by_cases hv13 : vv = (13 : Int32)
  · exact law_c13 hE_route hK hz hsc hi hN hRel hv13 nextI
  by_cases hv14 : vv = (14 : Int32)
  · exact law_c14 hE_hears hK hz hsc hi hN hRel hv14 nextI
  by_cases hv15 : vv = (15 : Int32)
  · exact law_c15 hE_asks hK hz hsc hi hN hRel hv15 nextI
  by_cases hv16 : vv = (16 : Int32)
  · exact law_c16 hE_becomes hK hz hsc hi hN hRel hv16 nextI
  by_cases hv17 : vv = (17 : Int32)
  · exact law_c17 hE_keeps hK hz hsc hi hN hRel hv17 nextI
  by_cases hv18 : vv = (18 : Int32)
  · exact law_c18 hE_apart hK hz hsc hi hN hRel hv18 nextI
  by_cases hv19 : vv = (19 : Int32)
  · exact law_c19 hE_longest hK hz hsc hi hN hRel hv19 nextI
  by_cases hv20 : vv = (20 : Int32)
  · exact law_c20 hE_rounds hK hz hsc hi hN hRel hv20 nextI
  by_cases hv21 : vv = (21 : Int32)
  · exact law_c21 hE_way hK hz hsc hi hN hRel hv21 nextI
  by_cases hv22 : vv = (22 : Int32)
  · exact law_c22 hE_meets hK hz hsc hi hN hRel hv22 nextI
  by_cases hv23 : vv = (23 : Int32)
  · exact law_c23 hE_heart hK hz hsc hi hN hRel hv23 nextI
  by_cases hv24 : vv = (24 : Int32)
  · exact law_c24 hE_ropes hK hz hsc hi hN hRel hv24 nextI
  by_cases hv25 : vv = (25 : Int32)
  · exact law_c25 hE_needed hK hz hsc hi hN hRel hv25 nextI
  by_cases hv26 : vv = (26 : Int32)
  · exact law_c26 hE_tour hK hz hsc hi hN hRel hv26 nextI
  by_cases hv27 : vv = (27 : Int32)
  · exact law_c27 hE_halves hK hz hsc hi hN hRel hv27 nextI
  by_cases hv28 : vv = (28 : Int32)
  · exact law_c28 hE_guides hK hz hsc hi hN hRel hv28 nextI
  by_cases hv29 : vv = (29 : Int32)
  · exact law_c29 hE_most hK hz hsc hi hN hRel hv29 nextI
  by_cases hv30 : vv = (30 : Int32)
  · exact law_c30 hE_told hK hz hsc hi hN hRel hv30 nextI
  by_cases hv31 : vv = (31 : Int32)
  · exact law_c31 hE_forget hK hz hsc hi hN hRel hv31 nextI
  by_cases hv32 : vv = (32 : Int32)
  · exact law_c32 hE_fits hK hz hsc hi hN hRel hv32 nextI
  by_cases hv33 : vv = (33 : Int32)
  · exact law_c33 hE_next hK hz hsc hi hN hRel hv33 nextI
  by_cases hv34 : vv = (34 : Int32)
  · exact law_c34 hE_heard hK hz hsc hi hN hRel hv34 nextI
  by_cases hv35 : vv = (35 : Int32)
  · exact law_c35 hE_denied hK hz hsc hi hN hRel hv35 nextI
  by_cases hv36 : vv = (36 : Int32)
  · exact law_c36 hE_laws hK hz hsc hi hN hRel hv36 nextI
  by_cases hv37 : vv = (37 : Int32)
  · exact law_c37 hE_listens hK hz hsc hi hN hRel hv37 nextI
  by_cases hv38 : vv = (38 : Int32)
  · exact law_c38 hE_hints hK hz hsc hi hN hRel hv38 nextI
  by_cases hv39 : vv = (39 : Int32)
  · exact law_c39 hE_game hK hz hsc hi hN hRel hv39 nextI
  by_cases hv40 : vv = (40 : Int32)
  · exact law_c40 hE_law hK hz hsc hi hN hRel hv40 nextI
  by_cases hv41 : vv = (41 : Int32)
  · exact law_c41 hE_rests hK hz hsc hi hN hRel hv41 nextI
  by_cases hv42 : vv = (42 : Int32)
  · exact law_c42 hE_years hK hz hsc hi hN hRel hv42 nextI
  by_cases hv43 : vv = (43 : Int32)
  · exact law_c43 hE_keep hK hz hsc hi hN hRel hv43 nextI
  by_cases hv44 : vv = (44 : Int32)
  · exact law_c44 hE_again hK hz hsc hi hN hRel hv44 nextI
  by_cases hv45 : vv = (45 : Int32)
  · exact law_c45 hE_count hK hz hsc hi hN hRel hv45 nextI
  by_cases hv46 : vv = (46 : Int32)
  · exact law_c46 hE_row hK hz hsc hi hN hRel hv46 nextI
  refine j_tabOut hK 1595 dL_law_40 (by have q := (And.intro (ne_toInt 0 (by decide) hv0) (And.intro (ne_toInt 1 (by decide) hv1) (And.intro (ne_toInt 2 (by decide) hv2) (And.intro (ne_toInt 3 (by decide) hv3) (And.intro (ne_toInt 4 (by decide) hv4) (And.intro (ne_toInt 5 (by decide) hv5) (And.intro (ne_toInt 6 (by decide) hv6) (And.intro (ne_toInt 7 (by decide) hv7) (And.intro (ne_toInt 8 (by decide) hv8) (And.intro (ne_toInt 9 (by decide) hv9) (And.intro (ne_toInt 10 (by decide) hv10) (And.intro (ne_toInt 11 (by decide) hv11) (And.intro (ne_toInt 12 (by decide) hv12) (And.intro (ne_toInt 13 (by decide) hv13) (And.intro (ne_toInt 14 (by decide) hv14) (And.intro (ne_toInt 15 (by decide) hv15) (And.intro (ne_toInt 16 (by decide) hv16) (And.intro (ne_toInt 17 (by decide) hv17) (And.intro (ne_toInt 18 (by decide) hv18) (And.intro (ne_toInt 19 (by decide) hv19) (And.intro (ne_toInt 20 (by decide) hv20) (And.intro (ne_toInt 21 (by decide) hv21) (And.intro (ne_toInt 22 (by decide) hv22) (And.intro (ne_toInt 23 (by decide) hv23) (And.intro (ne_toInt 24 (by decide) hv24) (And.intro (ne_toInt 25 (by decide) hv25) (And.intro (ne_toInt 26 (by decide) hv26) (And.intro (ne_toInt 27 (by decide) hv27) (And.intro (ne_toInt 28 (by decide) hv28) (And.intro (ne_toInt 29 (by decide) hv29) (And.intro (ne_toInt 30 (by decide) hv30) (And.intro (ne_toInt 31 (by decide) hv31) (And.intro (ne_toInt 32 (by decide) hv32) (And.intro (ne_toInt 33 (by decide) hv33) (And.intro (ne_toInt 34 (by decide) hv34) (And.intro (ne_toInt 35 (by decide) hv35) (And.intro (ne_toInt 36 (by decide) hv36) (And.intro (ne_toInt 37 (by decide) hv37) (And.intro (ne_toInt 38 (by decide) hv38) (And.intro (ne_toInt 39 (by decide) hv39) (And.intro (ne_toInt 40 (by decide) hv40) (And.intro (ne_toInt 41 (by decide) hv41) (And.intro (ne_toInt 42 (by decide) hv42) (And.intro (ne_toInt 43 (by decide) hv43) (And.intro (ne_toInt 44 (by decide) hv44) (And.intro (ne_toInt 45 (by decide) hv45) (And.intro (ne_toInt 46 (by decide) hv46) trivial))))))))))))))))))))))))))))))))))))))))))))))); omega) (by decide) ?_
  exact nextI _ _ S (Nat.le_refl _) (Nat.le_refl _) hRel (Nat.le_succ _) (Nat.le_add_right _ _)
