/-! the law's helpers: a call that may throw, caught -/
def xK {α : Type} (o : Option α) : Int32 := match o with
  | some _ => 0
  | none => 1
def xS {α : Type} (w : α → Int64) (o : Option α) (S : St) : St := match o with
  | some v => sL S 158 0 (w v)
  | none => S
def zup (K : CT) : CT := (K.1, K.2.1, K.2.2.1, K.2.2.2.1, K.2.2.2.2.1 + 1, K.2.2.2.2.2 + 6)
def zroom (K : CT) : Prop := K.1.2.1.stackTraces = false ∧ K.2.2.2.2.1 + 1 ≤ K.1.2.2.2.1.cells ∧ K.2.2.2.2.2 + 6 ≤ K.1.2.2.2.1.slots
theorem KO_up {K : CT} {cc : ByteArray} {own : String} {nL d : Nat} {rt : Option FieldType} (hK : KO K cc own nL d rt) (hz : zroom K) : KO (zup K) cc own nL d rt := by
  obtain ⟨⟨p, l, e, R, s⟩, ⟨m, args, below, meth, c⟩, ⟨D, ad, cy⟩, ⟨Q, nc, ns⟩⟩ := K
  obtain ⟨hx, hb, hown, hml, hR, hr, hlk, hts, hKK, hinj, hzX⟩ := hK
  exact ⟨hx, hb, hown, hml, ⟨hR.1, hR.2.1, hz.2.1, hz.2.2⟩, hr, hlk, hts, hKK, hinj, hzX⟩
/-- with an exception on its way -/
def JT (K : CT) (pc : Nat) (L : List (Nat × Value)) (st : List Value) (S : St) : Prop := match K with
  | ((p, l, e, R, s), (m, args, below, meth, c), (D, ad, cy), (Q, nc, ns)) => ∀ (H : Heap) (locs : List Loc) (ls : Array Slot) (q : Addr) (ce : Cell), va_P D vwCl (zw ad cy S) H → va_S (zA ad) s.heap H locs → lv_has ls c.maxLocals (L.map (mL ad)) → H[q]? = some ce → ce.vm = .none → s.vm.findClass NSE = some ce.cls → vx_W p l e R s m args below meth c H locs nc ns Q (F0 m pc ls (st.map (mv ad))) q
section JH
variable {K : CT} {cc : ByteArray} {own : String} {nL d pc : Nat} {rt : Option FieldType} {L L' : List (Nat × Value)} {st st0 : List Value} {S : St}
theorem j_callX (hK : KO K cc own nL d rt) {index : Nat} {y : MethodName} {code' : ByteArray} {nL' d' ci o : Nat} {rt' : Option FieldType} {As : List Value} {oo : Option (Option Value)} {Sa : St} {T : u_T} {N : Nat}
    (hM : zMX y code' nL' d' rt' (.ref o :: As) S oo Sa) (hz : zroom K) (hd : decode cc pc = .ok (.invokevirtual index, 3)) (hcl : zCL ci y.cls T N) (ho : zO ci o)
    (w1 : Cond.methodLink own index y ∈ zT) (w2 : Cond.instanceMethod y ∈ zT) (w3 : Cond.selects y.cls y y ∈ zT) (w4 : Cond.initialized y.cls ∈ zT) (w5 : Cond.code y code' nL' rt' ∈ zT)
    (hy : y.cls ≠ "java/lang/invoke/MethodHandle" ∧ y.cls ≠ "java/lang/invoke/VarHandle" ∧ (parseMethodDescriptor y.desc).map (fun d => d.parameters.length) = some As.length)
    (hdd : d' < d ∧ nL' ≤ 60) (hst : st0 = As.reverse ++ .ref o :: st) (hw : (st.map fun v => v.category).sum ≤ 8) (kr : ∀ rv, oo = some rv → J (zup K) (pc + 3) L (rv.toList ++ st) Sa) (kt : oo = none → JT (zup K) pc L st Sa) : J K pc L st0 S := by
  subst hst
  obtain ⟨⟨p, l, e, R, s⟩, ⟨m, args, below, meth, c⟩, ⟨D, ad, cy⟩, ⟨Q, nc, ns⟩⟩ := K
  obtain ⟨hx, hb, hown, hml, hR, hr, hlk, hts, hKK, hinj, hzX⟩ := hK
  intro H locs ls hP hS hl'
  obtain ⟨hz1, hz2, hz3⟩ := hz
  have hz2 : nc + 1 ≤ R.cells := hz2
  have hz3 : ns + 6 ≤ R.slots := hz3
  have cw : CallW R s args own y.cls index y code' nL' rt' (.code y code' nL' rt' :: zT) (zrx d') 1 6 As.length := by
    refine cwV As.length hts ?_ rfl rfl rfl ⟨rfl, hy⟩ ⟨by show d' + 1 ≤ R.frames; omega, by show 8 + (nL' + 11) + 100 * d' ≤ R.locals; omega⟩
    intro w hw
    simp only [wsV, List.mem_append, List.mem_cons, List.not_mem_nil, or_false] at hw
    rcases hw with (rfl | rfl | rfl | rfl) | rfl | hw
    · exact zT_good _ w1
    · exact zT_good _ w2
    · exact zT_good _ w3
    · exact zT_good _ w4
    · exact zT_good _ w5
    · exact zT_good _ hw
  intro T0 hT0 X
  have run := vx_runV (e := e) (below := below) (meth := meth) (locs := locs) (cells := nc) (slots := ns) (As := As.map (mv ad)) (rest := st.map (mv ad)) (b := ad o) (g := F0 m pc ls ((As.reverse ++ .ref o :: st).map (mv ad))) (nL := nL) ⟨hx, hb, hml, hown, hts⟩ (n := As.length) (C := y.cls) (hM l D ad cy hz1 hinj) cw
    ⟨fun a U g mk q => ⟨q.1, q.2.1, va_K.moved (u := U) (U := U.calling g mk a) (Vm.Alike.refl U.vm) q.2.2.1, zX.same (u := U) (U := U.calling g mk a) rfl q.2.2.2⟩, va_recv hKK hP (ci := ci) (q0 := o) hcl.1 (by rw [zw_get ho.2, zc_obj ho.1 hcl.2.2.1]), fun U hU hW => ⟨by simp [mv], by rw [hU]; exact hP, va_K.moved hW.alike hKK, by rw [hU]; exact (hzX.kept hS.2.1).warm hW⟩⟩
    rfl (by simp) (by rw [← hml]; exact hl'.1) (by simp [mv]) (by have e := lv_room (m := m) (pc := pc) (ls := ls) (rest := (As.reverse ++ .ref o :: st).map (mv ad)) (st := st.map (mv ad)) (by rw [zcat]; exact hw); exact e) hd ⟨hz2, hz3⟩ T0 hT0 X
  have hSx : ∀ (st₀ t T' : State) (L1 : List Loc), st₀.heap = H → T'.heap = t.heap → va_F (zA ad) st₀ t → (∀ q ∈ L1, zA ad q.base) → va_S (zA ad) s.heap T'.heap (locs ++ L1) := by
    intro st₀ t T' L1 h0 e1 hF hL1
    refine ⟨?_, fun q h1 h2 => ?_, fun z hz => ?_⟩
    · rw [e1]; exact Nat.le_trans hS.1 (by rw [← h0]; exact hF.1)
    · rw [e1, hF.2 q (by rw [h0]; exact Nat.lt_of_lt_of_le h1 hS.1) h2, h0]; exact hS.2.1 q h1 h2
    · rcases List.mem_append.mp hz with h | h
      · exact hS.2.2 z h
      · exact hL1 z h
  rcases run with ⟨v, st₀, t, T', L1, h0, X', hL1, e1, e2, ⟨ra, hoo, hv, hPt, hF⟩, go⟩ | ⟨q, st₀, t, T', L1, E, ce, h0, X', hL1, e1, e2, ⟨hoo, hE, hPt, hF⟩, hce, hcv, hcl9, go⟩
  · cases hv
    obtain ⟨t2, a1, b1⟩ := kr ra hoo T'.heap (locs ++ L1) ls (by rw [e1]; exact hPt) (hSx st₀ t T' L1 h0 e1 hF hL1) hl' T' rfl X'
    refine ⟨t2, ?_, b1⟩
    refine go t2 ?_
    cases ra <;> exact a1
  · subst hE
    obtain ⟨t2, a1, b1⟩ := kt hoo T'.heap (locs ++ L1) ls q ce (by rw [e1]; exact hPt) (hSx st₀ t T' L1 h0 e1 hF hL1) hl' (by rw [e1]; exact hce) hcv hcl9 T' rfl X'
    exact ⟨t2, go.trans a1, b1⟩
def zMH (y : MethodName) (code : ByteArray) (nL d : Nat) (rt : Option FieldType) (hh : List (Nat × Nat × Nat × Nat)) (av : List Value) (S : St) (rv : Option Value) (Sv : St) : Prop :=
  ∀ (l : Launch) (D : va_G) (ad : Nat → Nat) (cy : Nat → ClassId), l.stackTraces = false → zinj ad → Met l y (.codeWith y code nL rt hh :: zT) (zrx d) (va_Pc (av.map (mv ad)) (fun U => va_P D vwCl (zw ad cy S) U.heap ∧ va_K D vwCl (zty cy) U ∧ zX ad U U.heap)) (zQ D ad cy rv Sv) 1 6 (zA ad)
def zansH (K : CT) (hh : List (Nat × Nat × Nat × Nat)) (a : Option Value × St) : Prop := match K with
  | ((_, l, _, R, s), (_, args, below, _, c), (D, ad, cy), (Q, nc, ns)) => Q = MQ below (zQ D ad cy a.1 a.2) args s 1 6 (zA ad) ∧ nc = 0 ∧ ns = 0 ∧ c.exceptionTable.toList = tableOf hh
theorem zMH_of {y : MethodName} {code : ByteArray} {nL d : Nat} {rt : Option FieldType} {hh : List (Nat × Nat × Nat × Nat)} {av : List Value} {S : St} {rv : Option Value} {Sv : St} {L : List (Nat × Value)} (hy : plainName y.cls = true) (hlen : (lg_sl av).length ≤ nL) (hL : lv_args 0 av = L)
    (body : ∀ K, KO K code y.cls nL d rt → zroom K → zansH K hh (rv, Sv) → J K 0 L [] S) : zMH y code nL d rt hh av S rv Sv := by
  intro l D ad cy hst hinj
  refine va_MetW (cc := code) (maxL := nL) (ret := rt) hy rfl ?_
  intro p e s m args below meth c s₁ B hml hv
  obtain ⟨rfl, hP, hKK, hzX⟩ := hv
  have hts := atoms_spec (ws := .codeWith y code nL rt hh :: zT) B.pre
  have hown : s.vm.findClass y.cls = some m.cls := findClass_of_methodNamed B.named
  have htab : c.exceptionTable.toList = tableOf hh := vx_table (x := y) B (hts _ List.mem_cons_self)
  have k := body ((p, l, e, zrx d, s), (m, (av.map (mv ad)).toArray, below, meth, c), (D, ad, cy), (MQ below (zQ D ad cy rv Sv) (av.map (mv ad)).toArray s 1 6 (zA ad), 0, 0)) ⟨B.exec, B.bytes, hown, hml, ⟨Nat.le_refl _, Nat.le_refl _, Nat.zero_le _, Nat.zero_le _⟩, B.returns, B.notSynchronized, fun w hw => hts w (List.mem_cons_of_mem _ hw), hKK, hinj, hzX⟩ ⟨hst, Nat.le_refl _, Nat.le_refl _⟩ ⟨rfl, rfl, rfl, htab⟩
  rw [lg_entry_eq]
  have hl := lv_entry (av.map (mv ad)) (n := nL) (by rw [lg_sl_map]; exact hlen)
  rw [lv_args_map, hL, ← hml] at hl
  have k2 := k s.heap [] _ hP va_S.rf hl
  rw [hml] at k2
  exact k2
/-- the helper's end behind the call -/
theorem j_hret (hK : KO K cc own nL d rt) {hh : List (Nat × Nat × Nat × Nat)} {v : Int32} (hd : decode cc pc = .ok (.ireturn, 1)) (hq : rt = some .int) (ha : zansH K hh (some (.int v), S)) : J (zup K) pc L [.int v] S := by
  obtain ⟨⟨p, l, e, R, s⟩, ⟨m, args, below, meth, c⟩, ⟨D, ad, cy⟩, ⟨Q, nc, ns⟩⟩ := K
  obtain ⟨hx, hb, hown, hml, hR, hr, hlk, hts, hKK, hinj, hzX⟩ := hK
  obtain ⟨rfl, rfl, rfl, htab⟩ := ha
  intro H locs ls hP hS hl'
  exact W.iret hx hb (hr.trans hq) (fun t ht hW => ⟨rfl, by rw [ht]; exact hP, hS.F ht⟩) hS.2.2 hd hlk

theorem zlk : Cond.classLink RL 13 NSE ∈ zT := zT_in (zt5 (List.mem_of_getElem? (i := 128) rfl)) rfl
/-- caught: the handler stores it and answers 1 -/
theorem j_hcat (hK : KO K cc RL nL d rt) {a b : Nat} (hp : Nat) (k : Nat) (hd1 : decode cc hp = .ok (.astore k, 2) ∨ ∃ f : Fin 4, (f : Nat) = k ∧ decode cc hp = .ok (.astore_n f, 1)) (hk : k < nL) (pc1 : Nat) (hpc1 : (decode cc hp = .ok (.astore k, 2) → pc1 = hp + 2) ∧ (∀ f : Fin 4, decode cc hp = .ok (.astore_n f, 1) → pc1 = hp + 1)) (hd2 : decode cc pc1 = .ok (.iconst 1, 1)) (hd3 : decode cc (pc1 + 1) = .ok (.ireturn, 1)) (hq : rt = some .int) (hcov : ∀ x ∈ tableOf [(a, b, hp, 13)], covers x pc = true) (ha : zansH K [(a, b, hp, 13)] (some (.int 1), S)) : JT (zup K) pc L st S := by
  obtain ⟨⟨p, l, e, R, s⟩, ⟨m, args, below, meth, c⟩, ⟨D, ad, cy⟩, ⟨Q, nc, ns⟩⟩ := K
  obtain ⟨hx, hb, hown, hml, hR, hr, hlk, hts, hKK, hinj, hzX⟩ := hK
  obtain ⟨rfl, rfl, rfl, htab⟩ := ha
  intro H locs ls q ce hP hS hl' hce hcv hcl
  obtain ⟨x9, hx9, e9, e8⟩ : ∃ x9, tableOf [(a, b, hp, 13)] = [x9] ∧ x9.catchType = 13 ∧ x9.handlerPc = hp := ⟨_, rfl, rfl, rfl⟩
  have hsplit : c.exceptionTable.toList = [] ++ x9 :: [] := by rw [htab, hx9]; rfl
  refine vx_catch (own := RL) (name := NSE) hown [] _ [] hsplit (fun z hz => nomatch hz) (hcov _ (by rw [hx9]; exact List.mem_cons_self)) (by rw [e9]; decide) (by rw [e9]; exact hts _ zlk) (va_Nw.use rfl hzX.2.1.1) hce hcv hcl ?_
  rw [e8]
  have fin : ∀ ls' : Array Slot, W p l e R s m args below meth c H locs (0 + 1) (0 + 6) (MQ below (zQ D ad cy (some (.int 1)) S) args s 1 6 (zA ad)) (F0 m pc1 ls' []) := by
    intro ls'
    refine lv_iconst (v := 1) hx hb hd2 (by decide) ?_
    exact W.iret hx hb (hr.trans hq) (fun t ht hW => ⟨rfl, by rw [ht]; exact hP, hS.F ht⟩) hS.2.2 hd3 hlk
  rcases hd1 with h | ⟨f, hf, h⟩
  · refine lv_astore hx hb h hl' (by rw [hml]; exact hk) rfl (fun ls' _ => ?_)
    rw [← hpc1.1 h]; exact fin ls'
  · refine lv_astore_n hx hb h hf hl' (by rw [hml]; exact hk) rfl (fun ls' _ => ?_)
    rw [← hpc1.2 f h]; exact fin ls'
end JH
theorem c_L_passage {p1 p2 : Int32} {S : St} {r : Option Int32} {S' : St} (hf : f_X10_passage p1 p2 S = some (r, S')) : zMH yL_passage cL_passage 5 7 (some .int) [(0, 10, 13, 13)] [.ref 0, .int p1, .int p2, .ref 158] S (some (.int (xK r))) (xS (fun v : Int32 => v.toInt64) r S') := by
  refine zMH_of (by decide) (Nat.le_of_ble_eq_true rfl) rfl (fun K hK hz hA => ?_)
  refine j_aload_n hK dL_passage_0 3 rfl rfl ?_
  refine j_iconst hK (0 : Int32) dL_passage_1 ic_0 ?_
  refine j_aload_n hK dL_passage_2 0 rfl rfl ?_
  refine j_iload_n hK dL_passage_3 1 rfl rfl ?_
  refine j_iload_n hK dL_passage_4 2 rfl rfl ?_
  refine j_callX hK (c_X10_passage hf) hz dL_passage_5 zclX10 zo_0 ml_L_7 mi_X10_passage mx_X10_passage in_X10 mc_X10_passage hy_X10_passage ⟨by decide, by decide⟩ rfl (Nat.le_of_ble_eq_true rfl) (fun rv hrv => ?_) (fun hn => ?_)
  · cases r with
    | none => cases hrv
    | some v =>
      cases hrv
      have hK' := KO_up hK hz
      refine j_i2l hK' dL_passage_8 ?_
      refine k_last hK' dL_passage_9 zb_158 (by decide) tn_0 ?_
      refine j_goto hK' 17 dL_passage_10 (by decide) ?_
      refine j_iconst hK' (0 : Int32) dL_passage_17 ic_0 ?_
      exact j_hret hK dL_passage_18 rfl hA
  · cases r with
    | some v => cases hn
    | none => exact j_hcat hK 13 4 (Or.inl dL_passage_13) (by decide) 15 ⟨fun _ => rfl, fun f h => by rw [dL_passage_13] at h; cases h⟩ dL_passage_15 dL_passage_16 rfl (by decide +kernel) hA
theorem c_L_cavern {p1 p2 : Int32} {S : St} {r : Option Int32} {S' : St} (hf : f_X10_cavern p1 p2 S = some (r, S')) : zMH yL_cavern cL_cavern 5 7 (some .int) [(0, 10, 13, 13)] [.ref 0, .int p1, .int p2, .ref 158] S (some (.int (xK r))) (xS (fun v : Int32 => v.toInt64) r S') := by
  refine zMH_of (by decide) (Nat.le_of_ble_eq_true rfl) rfl (fun K hK hz hA => ?_)
  refine j_aload_n hK dL_cavern_0 3 rfl rfl ?_
  refine j_iconst hK (0 : Int32) dL_cavern_1 ic_0 ?_
  refine j_aload_n hK dL_cavern_2 0 rfl rfl ?_
  refine j_iload_n hK dL_cavern_3 1 rfl rfl ?_
  refine j_iload_n hK dL_cavern_4 2 rfl rfl ?_
  refine j_callX hK (c_X10_cavern hf) hz dL_cavern_5 zclX10 zo_0 ml_L_15 mi_X10_cavern mx_X10_cavern in_X10 mc_X10_cavern hy_X10_cavern ⟨by decide, by decide⟩ rfl (Nat.le_of_ble_eq_true rfl) (fun rv hrv => ?_) (fun hn => ?_)
  · cases r with
    | none => cases hrv
    | some v =>
      cases hrv
      have hK' := KO_up hK hz
      refine j_i2l hK' dL_cavern_8 ?_
      refine k_last hK' dL_cavern_9 zb_158 (by decide) tn_0 ?_
      refine j_goto hK' 17 dL_cavern_10 (by decide) ?_
      refine j_iconst hK' (0 : Int32) dL_cavern_17 ic_0 ?_
      exact j_hret hK dL_cavern_18 rfl hA
  · cases r with
    | some v => cases hn
    | none => exact j_hcat hK 13 4 (Or.inl dL_cavern_13) (by decide) 15 ⟨fun _ => rfl, fun f h => by rw [dL_cavern_13] at h; cases h⟩ dL_cavern_15 dL_cavern_16 rfl (by decide +kernel) hA
theorem c_L_row {p1 : Int32} {S : St} {r : Option Int64} {S' : St} (hf : f_X10_row p1 S = some (r, S')) : zMH yL_row cL_row 4 7 (some .int) [(0, 8, 11, 13)] [.ref 0, .int p1, .ref 158] S (some (.int (xK r))) (xS (fun v : Int64 => v) r S') := by
  refine zMH_of (by decide) (Nat.le_of_ble_eq_true rfl) rfl (fun K hK hz hA => ?_)
  refine j_aload_n hK dL_row_0 2 rfl rfl ?_
  refine j_iconst hK (0 : Int32) dL_row_1 ic_0 ?_
  refine j_aload_n hK dL_row_2 0 rfl rfl ?_
  refine j_iload_n hK dL_row_3 1 rfl rfl ?_
  refine j_callX hK (c_X10_row hf) hz dL_row_4 zclX10 zo_0 ml_L_18 mi_X10_row mx_X10_row in_X10 mc_X10_row hy_X10_row ⟨by decide, by decide⟩ rfl (Nat.le_of_ble_eq_true rfl) (fun rv hrv => ?_) (fun hn => ?_)
  · cases r with
    | none => cases hrv
    | some v =>
      cases hrv
      have hK' := KO_up hK hz
      refine k_last hK' dL_row_7 zb_158 (by decide) tn_0 ?_
      refine j_goto hK' 14 dL_row_8 (by decide) ?_
      refine j_iconst hK' (0 : Int32) dL_row_14 ic_0 ?_
      exact j_hret hK dL_row_15 rfl hA
  · cases r with
    | some v => cases hn
    | none => exact j_hcat hK 11 3 (Or.inr ⟨3, rfl, dL_row_11⟩) (by decide) 12 ⟨fun h => (by rw [dL_row_11] at h; cases h), fun f h => rfl⟩ dL_row_12 dL_row_13 rfl (by decide +kernel) hA
