/-- a constructor's contract: from n objects in the state G to n' in G' -/
def zrg (d cN sN : Nat) : Room := { frames := d, cells := cN, slots := sN, locals := 100 * d }
def zC (y : MethodName) (code : ByteArray) (nL d cN sN : Nat) (av : List Value) (n : Nat) (G : SG) (n' : Nat) (G' : SG) : Prop :=
  ∀ (l : Launch) (D : va_G) (cy : Nat → ClassId) (ad : Nat → Nat) (sz : Nat), okG G n → Met l y (.code y code nL none :: zT) (zrg d cN sN)
    (va_Pc (av.map (mv ad)) (fun U => U.heap.size = sz ∧ va_P D vwCl (zwG ad cy n G) U.heap ∧ va_K D vwCl (zty cy) U ∧ va_D (fun _ => True) (zwG ad cy n G) ∧ va_AO "CaveAdvice$State" U))
    (va_Qv (S := Nat → Nat) (fun ad' => ∀ o, o < n ∨ 1000 ≤ o → ad' o = ad o) (fun ad' t => (va_P D vwCl (zwG ad' cy n' G') t.heap ∧ va_D (va_A (zwG ad cy n G) sz) (zwG ad' cy n' G')) ∧ okG G' n' ∧ n ≤ n') (va_A (zwG ad cy n G) sz)) cN sN (va_A (zwG ad cy n G) sz)
def zansG (K : CG) (n' : Nat) (G' : SG) (cN sN : Nat) : Prop := match K with
  | ((_, _, _, _, s), (_, args, below, _, _), (D, cy), (n0, ad0), A, Q) => Q = MQ below (va_Qv (S := Nat → Nat) (fun ad' => ∀ o, o < n0 ∨ 1000 ≤ o → ad' o = ad0 o) (fun ad' t => (va_P D vwCl (zwG ad' cy n' G') t.heap ∧ va_D A (zwG ad' cy n' G')) ∧ okG G' n' ∧ n0 ≤ n') A) args s cN sN A
theorem zC_of {y : MethodName} {code : ByteArray} {nL d cN sN : Nat} {av : List Value} {n n' : Nat} {G G' : SG} {L : List (Nat × Value)} (hy : plainName y.cls = true) (hyn : y.name = "<init>") (hlen : (lg_sl av).length ≤ nL) (hL : lv_args 0 av = L)
    (body : ∀ K, KG K code y.cls nL d cN sN → KI K → zansG K n' G' cN sN → JG K 0 L [] n G 0 0) : zC y code nL d cN sN av n G n' G' := by
  intro l D cy ad sz hG
  refine Met.ofW (cc := code) (maxL := nL) (ret := none) hy rfl ?_
  intro p e s m args below meth c s₁ B hml hv
  obtain ⟨rfl, rfl, hP, hKK, hD0, hAO⟩ := hv
  have hts := atoms_spec (ws := .code y code nL none :: zT) B.pre
  have hown : s.vm.findClass y.cls = some m.cls := findClass_of_methodNamed B.named
  have hin : meth.name = "<init>" := (name_of_methodNamed B.named B.method).1.trans hyn
  have k := body ((p, l, e, zrg d cN sN, s), (m, (av.map (mv ad)).toArray, below, meth, c), (D, cy), (n, ad), va_A (zwG ad cy n G) s.heap.size, MQ below (va_Qv (S := Nat → Nat) (fun ad' => ∀ o, o < n ∨ 1000 ≤ o → ad' o = ad o) (fun ad' t => (va_P D vwCl (zwG ad' cy n' G') t.heap ∧ va_D (va_A (zwG ad cy n G) s.heap.size) (zwG ad' cy n' G')) ∧ okG G' n' ∧ n ≤ n') (va_A (zwG ad cy n G) s.heap.size)) (av.map (mv ad)).toArray s cN sN (va_A (zwG ad cy n G) s.heap.size))
    ⟨B.exec, B.bytes, hown, hml, ⟨Nat.le_refl _, Nat.le_refl _, Nat.le_refl _, Nat.le_refl _⟩, fun w hw => hts w (List.mem_cons_of_mem _ hw), hKK, fun q hq => Or.inr hq, hAO⟩ ⟨hin, B.notSynchronized, B.returns⟩ rfl
  rw [lg_entry_eq]
  have hl := lv_entry (av.map (mv ad)) (n := nL) (by rw [lg_sl_map]; exact hlen)
  rw [lv_args_map, hL, ← hml] at hl
  have k2 := k hG (Nat.le_refl _) ad s.heap [] _ (fun _ _ => rfl) hP hD0.self va_S.rf hl
  rw [hml] at k2
  exact k2
section JGC
variable {K : CG} {cc : ByteArray} {own : String} {nL d cN sN pc n nc ns : Nat} {L L' : List (Nat × Value)} {st st0 : List Value} {G : SG}
theorem g_ret (hK : KG K cc own nL d cN sN) (hI : KI K) (hd : decode cc pc = .ok (.return_, 1)) (ha : zansG K n G cN sN) : JG K pc L [] n G cN sN := by
  obtain ⟨⟨p, l, e, R, s⟩, ⟨m, args, below, meth, c⟩, ⟨D, cy⟩, ⟨n0, ad0⟩, A, Q⟩ := K
  obtain ⟨hx, hb, hown, hml, hR, hts, hKK, hA, hAO⟩ := hK
  cases ha
  intro hG hn0 ad H locs ls had hP hD hS hl'
  exact W.vret hx hb hI.2.2 (fun t ht hW => ⟨⟨ad, rfl, had, ⟨by rw [ht]; exact hP, hD⟩, hG, hn0⟩, hS.F ht⟩) hS.2.2 hd hI.2.1
theorem g_call (hK : KG K cc own nL d cN sN) {index : Nat} {y : MethodName} {code' : ByteArray} {nL' d' c1 s1 o n1 : Nat} {As : List Value} {G1 : SG}
    (hM : zC y code' nL' d' c1 s1 (.ref o :: As) n G n1 G1) (hd : decode cc pc = .ok (.invokespecial index, 3)) (hyn : y.name = "<init>")
    (w1 : Cond.methodLink own index y ∈ zT) (w2 : Cond.instanceMethod y ∈ zT) (w4 : Cond.initialized y.cls ∈ zT) (w5 : Cond.code y code' nL' none ∈ zT)
    (hy : y.cls ≠ "java/lang/invoke/MethodHandle" ∧ y.cls ≠ "java/lang/invoke/VarHandle" ∧ (parseMethodDescriptor y.desc).map (fun d => d.parameters.length) = some As.length)
    (hdd : d' < d ∧ nL' ≤ 60) (hc : nc + c1 ≤ cN ∧ ns + s1 ≤ sN) (hL : ∀ q ∈ L, okV n q.2) (hst9 : ∀ v ∈ st, okV n v) (hst : st0 = As.reverse ++ .ref o :: st) (hw : (st.map fun v => v.category).sum ≤ 8) (kk : JG K (pc + 3) L st n1 G1 (nc + c1) (ns + s1)) : JG K pc L st0 n G nc ns := by
  subst hst
  obtain ⟨⟨p, l, e, R, s⟩, ⟨m, args, below, meth, c⟩, ⟨D, cy⟩, ⟨n0, ad0⟩, A, Q⟩ := K
  obtain ⟨hx, hb, hown, hml, hR, hts, hKK, hA, hAO⟩ := hK
  intro hG hn0 ad H locs ls had hP hD hS hl'
  have cw : CallB R s args own index y code' nL' none (.code y code' nL' none :: zT) (zrg d' c1 s1) c1 s1 As.length ∧ y.name = "<init>" ∧ (Cond.instanceMethod y).before args s = true :=
    cwI As.length hts (zG w5) rfl rfl rfl (hts _ w4) (hts _ w1) (hts _ w2) hyn hy ⟨by show d' + 1 ≤ R.frames; omega, by show 8 + (nL' + 11) + 100 * d' ≤ R.locals; omega⟩
  have hsub : ∀ q, va_A (zwG ad cy n G) H.size q → A q := by
    rintro q (⟨k, e9, hk⟩ | h)
    · exact hD.2 k _ hk
    · exact hA q (Nat.le_trans hS.1 h)
  intro T0 hT0 X
  have run := va_runI (e := e) (below := below) (meth := meth) (locs := locs) (cells := nc) (slots := ns) (As := As.map (mv ad)) (rest := st.map (mv ad)) (b := ad o) (g := F0 m pc ls ((As.reverse ++ .ref o :: st).map (mv ad))) (nL := nL) ⟨hx, hb, hml, hown, hts⟩ (n := As.length) (hM l D cy ad H.size hG) cw
    ⟨fun a U g mk q => ⟨q.1, q.2.1, q.2.2.1, va_K.moved (u := U) (U := U.calling g mk a) (Vm.Alike.refl U.vm) q.2.2.2.1, q.2.2.2.2.1, va_AO.moved (u := U) (U := U.calling g mk a) (Vm.Alike.refl U.vm) q.2.2.2.2.2⟩, fun U hU hW => ⟨by simp [mv], by rw [hU], by rw [hU]; exact hP, va_K.moved hW.alike hKK, hD.weaken (fun _ _ _ _ => trivial), va_AO.moved hW.alike hAO⟩⟩
    rfl (by simp) (by rw [← hml]; exact hl'.1) (by simp [mv]) (by have e := lv_room (m := m) (pc := pc) (ls := ls) (rest := (As.reverse ++ .ref o :: st).map (mv ad)) (st := st.map (mv ad)) (by rw [zcat]; exact hw); exact e) hd ⟨by omega, by omega⟩ T0 hT0 X
  obtain ⟨v, st₀, t, T', L1, h0, X', hL1, e1, e2, ⟨⟨ad', hv, had', ⟨hPt, hDt⟩, hG1, hn1⟩, hF⟩, go⟩ := run
  cases hv
  have hS1 : va_S A s.heap T'.heap (locs ++ L1) := by
    refine ⟨?_, fun q h1 h2 => ?_, fun z hz => ?_⟩
    · rw [e1]; exact Nat.le_trans hS.1 (by rw [← h0]; exact hF.1)
    · rw [e1, hF.2 q (by rw [h0]; exact Nat.lt_of_lt_of_le h1 hS.1) (fun h => h2 (hsub q h)), h0]; exact hS.2.1 q h1 h2
    · rcases List.mem_append.mp hz with h | h
      · exact hS.2.2 z h
      · exact hsub _ (hL1 z h)
  have em : ∀ v : Value, okV n v → mv ad' v = mv ad v := by
    intro v hv
    cases v with
    | ref a => simp only [mv]; rw [had' a hv]
    | _ => rfl
  have eL : L.map (mL ad') = L.map (mL ad) := List.map_congr_left fun q hq => by
    show (q.1, mv ad' q.2) = (q.1, mv ad q.2)
    rw [em q.2 (hL q hq)]
  have eS : st.map (mv ad') = st.map (mv ad) := List.map_congr_left fun q hq => em q (hst9 q hq)
  obtain ⟨t2, a1, b1⟩ := kk hG1 (Nat.le_trans hn0 hn1) ad' T'.heap (locs ++ L1) ls (fun q hq => by rw [had' q (hq.imp (fun h => Nat.lt_of_lt_of_le h hn0) id)]; exact had q hq) (by rw [e1]; exact hPt) (hDt.weaken (fun _ q _ h => hsub _ h)) hS1 (by rw [eL]; exact hl') T' rfl X'
  refine ⟨t2, go t2 ?_, b1⟩
  rw [eS] at a1
  exact a1
end JGC
/-! the rows of new arrays, by their kinds -/
theorem gr_ty {ty : FieldType} (h : ∀ C, ty ≠ .object C) (U : State) (a b : ClassId) (h1 : va_RA U a ty) (h2 : va_RA U b ty) : a = b := by
  cases ty with
  | object C => exact absurd rfl (h C)
  | _ => exact Option.some.inj (h1.symm.trans h2)
