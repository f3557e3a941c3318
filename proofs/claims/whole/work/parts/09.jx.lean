/-! methods that may throw, and their catching -/
def zrx (d : Nat) : Room := { frames := d, cells := 1, slots := 6, locals := 100 * d }
def zQr (D : va_G) (ad : Nat → Nat) (cy : Nat → ClassId) (o : Option (Option Value)) (Sv : St) : Array Value → State → Outcome → State → Prop := fun a st oc t => ∃ rv, o = some rv ∧ zQ D ad cy rv Sv a st oc t
def zQt (D : va_G) (ad : Nat → Nat) (cy : Nat → ClassId) (o : Option (Option Value)) (Sv : St) : String → State → State → Prop := fun E st t => o = none ∧ E = NSE ∧ va_P D vwCl (zw ad cy Sv) t.heap ∧ va_F (zA ad) st t
def zMX (y : MethodName) (code : ByteArray) (nL d : Nat) (rt : Option FieldType) (av : List Value) (S : St) (o : Option (Option Value)) (Sv : St) : Prop :=
  ∀ (l : Launch) (D : va_G) (ad : Nat → Nat) (cy : Nat → ClassId), l.stackTraces = false → zinj ad → vx_Met l y (.code y code nL rt :: zT) (zrx d) (va_Pc (av.map (mv ad)) (fun U => va_P D vwCl (zw ad cy S) U.heap ∧ va_K D vwCl (zty cy) U ∧ zX ad U U.heap)) (zQr D ad cy o Sv) (zQt D ad cy o Sv) 1 6 (zA ad)
def zansX (K : CT) (a : Option (Option Value) × St) : Prop := match K with
  | ((_, l, _, R, s), (_, args, below, _, c), (D, ad, cy), (Q, nc, ns)) => Q = vx_MQ below (zQr D ad cy a.1 a.2) (zQt D ad cy a.1 a.2) args s 1 6 (zA ad) ∧ nc = 0 ∧ ns = 0 ∧ l.stackTraces = false ∧ (∀ x ∈ c.exceptionTable.toList, False) ∧ 1 ≤ R.cells ∧ 6 ≤ R.slots
theorem zMX_of {y : MethodName} {code : ByteArray} {nL d : Nat} {rt : Option FieldType} {av : List Value} {S : St} {o : Option (Option Value)} {Sv : St} {L : List (Nat × Value)} (hy : plainName y.cls = true) (hlen : (lg_sl av).length ≤ nL) (hL : lv_args 0 av = L)
    (body : ∀ K, KO K code y.cls nL d rt → zansX K (o, Sv) → J K 0 L [] S) : zMX y code nL d rt av S o Sv := by
  intro l D ad cy hst hinj
  refine vx_ofW (cc := code) (maxL := nL) (ret := rt) hy rfl ?_
  intro p e s m args below meth c s₁ B hml htab hv
  obtain ⟨rfl, hP, hKK, hzX⟩ := hv
  have hts := atoms_spec (ws := .code y code nL rt :: zT) B.pre
  have hown : s.vm.findClass y.cls = some m.cls := findClass_of_methodNamed B.named
  have k := body ((p, l, e, zrx d, s), (m, (av.map (mv ad)).toArray, below, meth, c), (D, ad, cy), (vx_MQ below (zQr D ad cy o Sv) (zQt D ad cy o Sv) (av.map (mv ad)).toArray s 1 6 (zA ad), 0, 0)) ⟨B.exec, B.bytes, hown, hml, ⟨Nat.le_refl _, Nat.le_refl _, Nat.zero_le _, Nat.zero_le _⟩, B.returns, B.notSynchronized, fun w hw => hts w (List.mem_cons_of_mem _ hw), hKK, hinj, hzX⟩ ⟨rfl, rfl, rfl, hst, htab, Nat.le_refl _, Nat.le_refl _⟩
  rw [lg_entry_eq]
  have hl := lv_entry (av.map (mv ad)) (n := nL) (by rw [lg_sl_map]; exact hlen)
  rw [lv_args_map, hL, ← hml] at hl
  have k2 := k s.heap [] _ hP va_S.rf hl
  rw [hml] at k2
  exact k2
theorem zxk : Cond.classLink RX10 120 NSE ∈ zT := zT_in (zt5 (List.mem_of_getElem? (i := 133) rfl)) rfl
theorem zxi : Cond.initialized NSE ∈ zT := zT_in (zt1 (List.mem_of_getElem? (i := 22) rfl)) rfl
def zxa : List Cond := vx_at0 RX10 122 NSE ["java/lang/RuntimeException", "java/lang/Exception"]
def zxb : List Cond := [Cond.castable NSE NSE, Cond.declares (Bundle.init0 Bundle.tN), Cond.declares (Bundle.init0 "java/lang/RuntimeException"), Cond.declares (Bundle.init0 "java/lang/Exception")]
theorem zxa_g : ∀ w ∈ zxa.filter goodWord, w ∈ lw_tbl := by decide +kernel
theorem zxa_n : ∀ w ∈ zxa.filter (fun w => !goodWord w), w ∈ zxb := by decide +kernel
theorem zxa_t : ∀ w ∈ Cond.classLink RX10 120 NSE :: Cond.initialized NSE :: zxa, vx_ot w = true := by decide +kernel
section JX
variable {K : CT} {cc : ByteArray} {own : String} {nL d pc : Nat} {rt : Option FieldType} {L L' : List (Nat × Value)} {st st0 : List Value} {S : St}
theorem j_throw (hK : KO K cc RX10 nL d rt) (d0 : decode cc pc = .ok (.new 120, 3)) (d3 : decode cc (pc + 3) = .ok (.dup, 1)) (d4 : decode cc (pc + 4) = .ok (.invokespecial 122, 3)) (d7 : decode cc (pc + 7) = .ok (.athrow, 1)) (hd6 : 6 ≤ d) (hw : (st.map fun v => v.category).sum ≤ 8) (ha : zansX K (none, S)) : J K pc L st S := by
  obtain ⟨⟨p, l, e, R, s⟩, ⟨m, args, below, meth, c⟩, ⟨D, ad, cy⟩, ⟨Q, nc, ns⟩⟩ := K
  obtain ⟨hx, hb, hown, hml, hR, hr, hlk, hts, hKK, hinj, hzX⟩ := hK
  obtain ⟨rfl, rfl, rfl, hst, htab, hRc, hRs⟩ := ha
  intro H locs ls hP hS hl'
  refine vx_throw0 (A := zA ad) hx hb hst hown (by decide +kernel) (by decide +kernel) (hts _ zxk) (hts _ zxi) ?_ zxa_t hzX.2.2.1 hzX.2.2.2 hS hl'.1 d0 d3 d4 d7 (fun x hx => (htab x hx).elim) (by show 2 + 3 < R.frames; omega) (by rw [zcat]; show _ + (13 * 3 + 42) ≤ R.locals; omega) (by omega) (by omega) hlk ?_ hS.2.2 (Nat.le_refl _) (Nat.le_refl _)
  · exact vx_hat (B := zxb) (fun w hw => hts w (zT_in (zxa_g w hw) (List.mem_filter.mp hw).2)) zxa_n (vx_c (va_Nw.use rfl hzX.2.1.1) (vx_c (va_Nw.use rfl hzX.2.1.2.1) (vx_c (va_Nw.use rfl hzX.2.1.2.2.1) (vx_c (va_Nw.use rfl hzX.2.1.2.2.2) vx_n))))
  · intro t hal hsz hkeep
    refine ⟨rfl, rfl, hP.kept (fun k q hk => hkeep q.1 ((hP k q hk).lt)), Nat.le_trans hS.1 hsz, fun q h1 h2 => ?_⟩
    rw [hkeep q (Nat.lt_of_lt_of_le h1 hS.1)]
    exact hS.2.1 q h1 h2
theorem j_xiret (hK : KO K cc own nL d rt) {v : Int32} (hd : decode cc pc = .ok (.ireturn, 1)) (hq : rt = some .int) (ha : zansX K (some (some (.int v)), S)) : J K pc L [.int v] S := by
  obtain ⟨⟨p, l, e, R, s⟩, ⟨m, args, below, meth, c⟩, ⟨D, ad, cy⟩, ⟨Q, nc, ns⟩⟩ := K
  obtain ⟨hx, hb, hown, hml, hR, hr, hlk, hts, hKK, hinj, hzX⟩ := hK
  obtain ⟨rfl, rfl, rfl, hst, htab, hRc, hRs⟩ := ha
  intro H locs ls hP hS hl'
  refine W.widen (k := 1) (n := 6) (Nat.zero_le _) (Nat.zero_le _) ?_
  exact vx_ret (W.iret hx hb (hr.trans hq) (fun t ht hW => ⟨_, rfl, rfl, by rw [ht]; exact hP, hS.F ht⟩) hS.2.2 hd hlk)
theorem j_xlret (hK : KO K cc own nL d rt) {v : Int64} (hd : decode cc pc = .ok (.lreturn, 1)) (hq : rt = some .long) (ha : zansX K (some (some (.long v)), S)) : J K pc L [.long v] S := by
  obtain ⟨⟨p, l, e, R, s⟩, ⟨m, args, below, meth, c⟩, ⟨D, ad, cy⟩, ⟨Q, nc, ns⟩⟩ := K
  obtain ⟨hx, hb, hown, hml, hR, hr, hlk, hts, hKK, hinj, hzX⟩ := hK
  obtain ⟨rfl, rfl, rfl, hst, htab, hRc, hRs⟩ := ha
  intro H locs ls hP hS hl'
  refine W.widen (k := 1) (n := 6) (Nat.zero_le _) (Nat.zero_le _) ?_
  exact vx_ret (W.lret hx hb (hr.trans hq) (fun t ht hW => ⟨_, rfl, rfl, by rw [ht]; exact hP, hS.F ht⟩) hS.2.2 hd hlk)
theorem rt_XI {v : Int32} {r : Option Int32} {S S' : St} (hA : zansX K (r.map (fun v => some (.int v)), S')) (hf : some (some v, S) = some (r, S')) : zansX K (some (some (.int v)), S) := by cases hf; exact hA
theorem rt_XJ {v : Int64} {r : Option Int64} {S S' : St} (hA : zansX K (r.map (fun v => some (.long v)), S')) (hf : some (some v, S) = some (r, S')) : zansX K (some (some (.long v)), S) := by cases hf; exact hA
theorem rt_XIt {r : Option Int32} {S S' : St} (hA : zansX K (r.map (fun v => some (.int v)), S')) (hf : some (none, S) = some (r, S')) : zansX K (none, S) := by cases hf; exact hA
theorem rt_XJt {r : Option Int64} {S S' : St} (hA : zansX K (r.map (fun v => some (.long v)), S')) (hf : some (none, S) = some (r, S')) : zansX K (none, S) := by cases hf; exact hA
end JX
