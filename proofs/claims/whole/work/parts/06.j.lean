/-! the state of all objects: ints (by object's number and place), longs -/
abbrev St : Type := (Nat → Nat → Int32) × (Nat → Nat → Int64)
def gI (S : St) (o k : Nat) : Int32 := S.1 o k
def gL (S : St) (o k : Nat) : Int64 := S.2 o k
def sI (S : St) (o k : Nat) (v : Int32) : St := (fun a b => if a = o then (if b = k then v else S.1 a b) else S.1 a b, S.2)
def sL (S : St) (o k : Nat) (v : Int64) : St := (S.1, fun a b => if a = o then (if b = k then v else S.2 a b) else S.2 a b)
def sC (S : St) (o1 p1 o2 p2 n : Nat) : St := (fun a b => if a = o2 then va_cpy (S.1 o1) (S.1 o2) p1 p2 n b else S.1 a b, S.2)
def sM (S : St) (o1 p1 o2 p2 n : Nat) : St := (S.1, fun a b => if a = o2 then va_cpy (S.2 o1) (S.2 o2) p1 p2 n b else S.2 a b)
/-! values hold objects' numbers; the machine's hold addresses -/
def mv (ad : Nat → Nat) (v : Value) : Value := match v with
  | .ref a => .ref (ad a)
  | v => v
def mL (ad : Nat → Nat) (q : Nat × Value) : Nat × Value := (q.1, mv ad q.2)
theorem mv_cat (ad : Nat → Nat) (v : Value) : (mv ad v).category = v.category := by cases v <;> rfl
/-! the world -/
def zd (S : St) (o k : Nat) : Nat := if zf (zk o) k = 1 then zr o k else (S.1 o k).toNatClampNeg
def zv (ad : Nat → Nat) (S : St) (o k : Nat) : Value := if zf (zk o) k = 0 then .int (S.1 o k) else .ref (ad (zd S o k))
def zc (ad : Nat → Nat) (cy : Nat → ClassId) (S : St) (o : Nat) : va_E :=
  if zk o < 12 then .inr (zk o, (List.range (zn (zk o))).map (zv ad S o))
  else if zk o = 14 then .inl (cy 14, zl o, .inr (.inl (S.2 o)))
  else if zk o = 16 then .inl (cy 16, zl o, .inr (.inr (.inr (.inr (fun j => some (ad (zr o j)))))))
  else .inl (cy (zk o), zl o, .inl (S.1 o))
def zw (ad : Nat → Nat) (cy : Nat → ClassId) (S : St) : va_W := (List.range zN).map (fun o => (ad o, zc ad cy S o))
def zty (cy : Nat → ClassId) : List (ClassId × FieldType) := [(cy 12, .int), (cy 13, .char), (cy 14, .long), (cy 15, .boolean), (cy 16, .object "CaveAdvice$State")]
def zA (ad : Nat → Nat) : Nat → Prop := fun q => ∃ o, o < zN ∧ q = ad o
def zinj (ad : Nat → Nat) : Prop := ∀ i j, i < zN → j < zN → ad i = ad j → i = j
theorem zw_len (ad : Nat → Nat) (cy : Nat → ClassId) (S : St) : (zw ad cy S).length = zN := by simp [zw]
theorem zw_get {ad : Nat → Nat} {cy : Nat → ClassId} {S : St} {o : Nat} (h : o < zN) : (zw ad cy S)[o]? = some (ad o, zc ad cy S o) := by
  simp [zw, List.getElem?_map, List.getElem?_range h]
theorem zw_of {ad : Nat → Nat} {cy : Nat → ClassId} {S : St} {k : Nat} {q : Nat × va_E} (h : (zw ad cy S)[k]? = some q) : k < zN ∧ q = (ad k, zc ad cy S k) := by
  have hk : k < zN := by
    have := (List.getElem?_eq_some_iff.mp h).1
    rwa [zw_len] at this
  rw [zw_get hk] at h
  exact ⟨hk, (Option.some.inj h).symm⟩
theorem zw_D {ad : Nat → Nat} (hi : zinj ad) (cy : Nat → ClassId) (S : St) : va_D (zA ad) (zw ad cy S) := by
  refine ⟨fun i j p q hp hq e => ?_, fun k q hk => ?_⟩
  · obtain ⟨h1, rfl⟩ := zw_of hp
    obtain ⟨h2, rfl⟩ := zw_of hq
    exact hi i j h1 h2 e
  · obtain ⟨h1, rfl⟩ := zw_of hk
    exact ⟨k, h1, rfl⟩
theorem zw_set {ad : Nat → Nat} {cy : Nat → ClassId} {S S' : St} {o : Nat} {e : va_E} (h : o < zN) (he : zc ad cy S' o = e) (hne : ∀ q, q ≠ o → zc ad cy S' q = zc ad cy S q) : (zw ad cy S).set o (ad o, e) = zw ad cy S' := by
  apply List.ext_getElem?
  intro k
  by_cases hk : k = o
  · subst hk
    rw [List.getElem?_set_self (by rw [zw_len]; exact h), zw_get h, he]
  · rw [List.getElem?_set_ne (fun q => hk q.symm)]
    by_cases hz : k < zN
    · rw [zw_get hz, zw_get hz, hne k hk]
    · rw [List.getElem?_eq_none (by rw [zw_len]; omega), List.getElem?_eq_none (by rw [zw_len]; omega)]
theorem zc_obj {ad : Nat → Nat} {cy : Nat → ClassId} {S : St} {o ci : Nat} (h : zk o = ci) (hc : ci < 12) : zc ad cy S o = .inr (ci, (List.range (zn ci)).map (zv ad S o)) := by
  simp [zc, h, hc]
theorem zc_int {ad : Nat → Nat} {cy : Nat → ClassId} {S : St} {o ki : Nat} (h : zk o = ki) (hk : ki = 12 ∨ ki = 13 ∨ ki = 15) : zc ad cy S o = .inl (cy ki, zl o, .inl (S.1 o)) := by
  rcases hk with rfl | rfl | rfl <;> simp [zc, h]
theorem zc_long {ad : Nat → Nat} {cy : Nat → ClassId} {S : St} {o : Nat} (h : zk o = 14) : zc ad cy S o = .inl (cy 14, zl o, .inr (.inl (S.2 o))) := by
  simp [zc, h]
theorem zc_refs {ad : Nat → Nat} {cy : Nat → ClassId} {S : St} {o : Nat} (h : zk o = 16) : zc ad cy S o = .inl (cy 16, zl o, .inr (.inr (.inr (.inr (fun j => some (ad (zr o j))))))) := by
  simp [zc, h]
theorem zc_off {ad : Nat → Nat} {cy : Nat → ClassId} {S S' : St} {o : Nat} (h : S'.1 o = S.1 o) (h2 : S'.2 o = S.2 o) : zc ad cy S' o = zc ad cy S o := by
  have e : zv ad S' o = zv ad S o := by
    funext k
    simp [zv, zd, h]
  simp [zc, h, h2, e]
theorem sI_off {S : St} {o k q : Nat} {v : Int32} (h : q ≠ o) : (sI S o k v).1 q = S.1 q := by funext b; simp [sI, h]
theorem sL_off {S : St} {o k q : Nat} {v : Int64} (h : q ≠ o) : (sL S o k v).2 q = S.2 q := by funext b; simp [sL, h]
theorem sI_on {S : St} {o k : Nat} {v : Int32} : (sI S o k v).1 o = upd (S.1 o) k v := by funext b; simp [sI, upd]
theorem sL_on {S : St} {o k : Nat} {v : Int64} : (sL S o k v).2 o = vp_updL (S.2 o) k v := by funext b; simp [sL, vp_updL]
/-! what else holds of the machine: two links among nest mates, String's statics, the String constants -/
def zSl : List Nat := [7, 3, 2, 2, 4]
def zSb : List (List Int32) := [[118, 98, 119, 100, 112, 110, 101], [60, 62, 61], [43, 45], [42, 47], [110, 120, 115, 109]]
def zX0 (ad : Nat → Nat) (U : State) (H : Heap) : Prop :=
  va_Nw (.methodLinkNest RX10 336 yX9_mostApart RX10) U ∧ va_Nw (.methodLinkNest RX3 34 yX10_isLetter RX10) U ∧ va_Z "java/lang/String" "COMPACT_STRINGS" "Z" (.int 1) (zA ad) U H ∧ (va_Z "jdk/internal/util/Preconditions" "SIOOBE_FORMATTER" "Ljava/util/function/BiFunction;" .null (zA ad) U H ∨ va_Z "jdk/internal/util/Preconditions" "SIOOBE_FORMATTER" "Ljava/util/function/BiFunction;" (.ref (ad 1020)) (zA ad) U H) ∧
  vk_S 5 zSl zSb (fun i => ad (1000 + i)) (fun i => ad (1010 + i)) (zA ad) U H ∧
  vk_R RX6 74 "vbwdpne" (ad 1000) U ∧ vk_R RX11 222 "vbwdpne" (ad 1000) U ∧ vk_R RX11 231 "<>=" (ad 1001) U ∧ vk_R RX11 233 "+-" (ad 1002) U ∧ vk_R RX11 235 "*/" (ad 1003) U ∧ vk_R RX11 379 "nxsm" (ad 1004) U
theorem zX0.warm {ad : Nat → Nat} {s U : State} {H : Heap} (hW : s.WarmedH U.vm) (h : zX0 ad s H) : zX0 ad U H := by
  obtain ⟨h1, h2, h3, h4, h5, h6, h7, h8, h9, h10, h11⟩ := h
  exact ⟨h1.warmM hW, h2.warmM hW, h3.moved hW.alike, h4.imp (fun h => h.moved hW.alike) (fun h => h.moved hW.alike), h5.moved hW.alike, h6.warm hW, h7.warm hW, h8.warm hW, h9.warm hW, h10.warm hW, h11.warm hW⟩
theorem zX0.kept {ad : Nat → Nat} {U : State} {H H1 : Heap} (h : zX0 ad U H) (hq : ∀ a : Nat, a < H.size → ¬ zA ad a → H1[a]? = H[a]?) : zX0 ad U H1 := by
  obtain ⟨h1, h2, h3, h4, h5, h6⟩ := h
  exact ⟨h1, h2, h3.kept hq, h4.imp (fun h => h.kept hq) (fun h => h.kept hq), h5.kept hq, h6⟩
theorem zX0.same {ad : Nat → Nat} {u U : State} {H : Heap} (hv : U.vm = u.vm) (h : zX0 ad u H) : zX0 ad U H := by
  obtain ⟨h1, h2, h3, h4, h5, h6, h7, h8, h9, h10, h11⟩ := h
  have ha : u.vm.Alike U.vm := by rw [hv]; exact Vm.Alike.refl _
  exact ⟨h1.same rfl hv.symm, h2.same rfl hv.symm, h3.moved ha, h4.imp (fun h => h.moved ha) (fun h => h.moved ha), h5.moved ha, h6.same hv, h7.same hv, h8.same hv, h9.same hv, h10.same hv, h11.same hv⟩
/-! what a throw needs -/
def NSE : String := "java/util/NoSuchElementException"
def zY (ad : Nat → Nat) (U : State) (H : Heap) : Prop := (va_Nw (.castable NSE NSE) U ∧ va_Nw (.declares (Bundle.init0 Bundle.tN)) U ∧ va_Nw (.declares (Bundle.init0 "java/lang/RuntimeException")) U ∧ va_Nw (.declares (Bundle.init0 "java/lang/Exception")) U) ∧ vx_Zq Bundle.tN "UNASSIGNED_STACK" Bundle.steD (zA ad) U H ∧ vx_Zq Bundle.tN "SUPPRESSED_SENTINEL" Bundle.listD (zA ad) U H
def zX (ad : Nat → Nat) (U : State) (H : Heap) : Prop := zX0 ad U H ∧ zY ad U H
theorem zX.warm {ad : Nat → Nat} {s U : State} {H : Heap} (hW : s.WarmedH U.vm) (h : zX ad s H) : zX ad U H := ⟨h.1.warm hW, ⟨h.2.1.1.warmC hW, h.2.1.2.1.warmD hW, h.2.1.2.2.1.warmD hW, h.2.1.2.2.2.warmD hW⟩, h.2.2.1.moved hW.alike, h.2.2.2.moved hW.alike⟩
theorem zX.kept {ad : Nat → Nat} {U : State} {H H1 : Heap} (h : zX ad U H) (hq : ∀ a : Nat, a < H.size → ¬ zA ad a → H1[a]? = H[a]?) : zX ad U H1 := ⟨h.1.kept hq, h.2.1, h.2.2.1.kept hq, h.2.2.2.kept hq⟩
theorem zX.same {ad : Nat → Nat} {u U : State} {H : Heap} (hv : U.vm = u.vm) (h : zX ad u H) : zX ad U H := by
  have ha : u.vm.Alike U.vm := by rw [hv]; exact Vm.Alike.refl _
  exact ⟨h.1.same hv, ⟨h.2.1.1.same rfl hv.symm, h.2.1.2.1.same rfl hv.symm, h.2.1.2.2.1.same rfl hv.symm, h.2.1.2.2.2.same rfl hv.symm⟩, h.2.2.1.moved ha, h.2.2.2.moved ha⟩
/-! the context of a method's walk: the machine; the method; the world's addresses; what is to be come to, the cells and slots made so far -/
abbrev CT : Type := (Program × Launch × Env × Room × State) × (MethodId × Array Value × List Frame × Method × Code) × (va_G × (Nat → Nat) × (Nat → ClassId)) × ((State → Prop) × Nat × Nat)
def zQ (D : va_G) (ad : Nat → Nat) (cy : Nat → ClassId) (rv : Option Value) (Sv : St) : Array Value → State → Outcome → State → Prop := fun _ st oc t =>
  oc = .returned (rv.map (mv ad)) ∧ va_P D vwCl (zw ad cy Sv) t.heap ∧ va_F (zA ad) st t
def J (K : CT) (pc : Nat) (L : List (Nat × Value)) (st : List Value) (S : St) : Prop := match K with
  | ((p, l, e, R, s), (m, args, below, meth, c), (D, ad, cy), (Q, nc, ns)) => ∀ (H : Heap) (locs : List Loc) (ls : Array Slot), va_P D vwCl (zw ad cy S) H → va_S (zA ad) s.heap H locs → lv_has ls c.maxLocals (L.map (mL ad)) → W p l e R s m args below meth c H locs nc ns Q (F0 m pc ls (st.map (mv ad)))
def zrm (d : Nat) : Room := { frames := d, cells := 0, slots := 0, locals := 100 * d }
/-- what holds of the context: the code, the class that it is of, its locals, its depth -/
def KO (K : CT) (code : ByteArray) (own : String) (nL d : Nat) (rt : Option FieldType) : Prop := match K with
  | ((p, _, _, R, s), (m, args, _, meth, c), (D, ad, cy), (_, nc, ns)) => p.tables.exec = Jvm.exec ∧ c.code = code ∧ s.vm.findClass own = some m.cls ∧ c.maxLocals = nL ∧ (d ≤ R.frames ∧ 100 * d ≤ R.locals ∧ nc ≤ R.cells ∧ ns ≤ R.slots) ∧ meth.sig.returnType = rt ∧ meth.locks = false ∧ (∀ w ∈ zT, w.before args s = true) ∧ va_K D vwCl (zty cy) s ∧ zinj ad ∧ zX ad s s.heap
def zans (K : CT) (a : Option Value × St) : Prop := match K with
  | ((_, _, _, _, s), (_, args, below, _, _), (D, ad, cy), (Q, nc, ns)) => Q = MQ below (zQ D ad cy a.1 a.2) args s 0 0 (zA ad) ∧ nc = 0 ∧ ns = 0
section JR
variable {K : CT} {cc : ByteArray} {own : String} {nL d pc : Nat} {rt : Option FieldType} {L L' : List (Nat × Value)} {st : List Value} {S : St}
theorem mL_at {ad : Nat → Nat} {k i : Nat} {v : Value} (h : L[k]? = some (i, v)) : (L.map (mL ad))[k]? = some (i, mv ad v) := by rw [List.getElem?_map, h]; rfl
theorem mL_f1 (ad : Nat → Nat) (i : Nat) (v : Value) (h : (i, v) :: L.filter (fun q => !(q.1 == i) && !(q.1 + 1 == i && q.2.category == 2)) = L') : (i, mv ad v) :: (L.map (mL ad)).filter (fun q => !(q.1 == i) && !(q.1 + 1 == i && q.2.category == 2)) = L'.map (mL ad) := by
  rw [← h, List.map_cons, List.filter_map]
  have e : ((fun q : Nat × Value => !(q.1 == i) && !(q.1 + 1 == i && q.2.category == 2)) ∘ mL ad) = (fun q : Nat × Value => !(q.1 == i) && !(q.1 + 1 == i && q.2.category == 2)) := by
    funext q
    simp [mL, mv_cat]
  rw [e]; rfl
theorem mL_f2 (ad : Nat → Nat) (i : Nat) (v : Value) (h : (i, v) :: L.filter (fun q => !(q.1 == i) && (!(q.1 == i + 1) && !(q.1 + 1 == i && q.2.category == 2))) = L') : (i, mv ad v) :: (L.map (mL ad)).filter (fun q => !(q.1 == i) && (!(q.1 == i + 1) && !(q.1 + 1 == i && q.2.category == 2))) = L'.map (mL ad) := by
  rw [← h, List.map_cons, List.filter_map]
  have e : ((fun q : Nat × Value => !(q.1 == i) && (!(q.1 == i + 1) && !(q.1 + 1 == i && q.2.category == 2))) ∘ mL ad) = (fun q : Nat × Value => !(q.1 == i) && (!(q.1 == i + 1) && !(q.1 + 1 == i && q.2.category == 2))) := by
    funext q
    simp [mL, mv_cat]
  rw [e]; rfl
/-- fewer locals, in another order -/
theorem j_sub (ks : List Nat) (h : lv_pick L ks = L') (k : J K pc L' st S) : J K pc L st S := by
  obtain ⟨⟨p, l, e, R, s⟩, ⟨m, args, below, meth, c⟩, ⟨D, ad, cy⟩, ⟨Q, nc, ns⟩⟩ := K
  intro H locs ls hP hS hl
  refine k H locs ls hP hS (lv_sub hl ks ?_)
  rw [← h]
  simp only [lv_pick, List.map_filterMap]
  congr 1
  funext i
  rw [List.getElem?_map]
theorem j_iload (hK : KO K cc own nL d rt) {i : Nat} {x : Int32} (hd : decode cc pc = .ok (.iload i, 2)) (k : Nat) (hl : L[k]? = some (i, .int x)) (kk : J K (pc + 2) L (.int x :: st) S) : J K pc L st S := by
  obtain ⟨⟨p, l, e, R, s⟩, ⟨m, args, below, meth, c⟩, ⟨D, ad, cy⟩, ⟨Q, nc, ns⟩⟩ := K
  obtain ⟨hx, hb, hown, hml, hR, hr, hlk, hts, hKK, hinj, hzX⟩ := hK
  intro H locs ls hP hS hl'
  exact lv_iload hx hb hd (lv_at hl' k (mL_at hl)) (kk H locs ls hP hS hl')
theorem j_iload_n (hK : KO K cc own nL d rt) {f : Fin 4} {i : Nat} {x : Int32} (hd : decode cc pc = .ok (.iload_n f, 1)) (k : Nat) (hi : (f : Nat) = i) (hl : L[k]? = some (i, .int x)) (kk : J K (pc + 1) L (.int x :: st) S) : J K pc L st S := by
  obtain ⟨⟨p, l, e, R, s⟩, ⟨m, args, below, meth, c⟩, ⟨D, ad, cy⟩, ⟨Q, nc, ns⟩⟩ := K
  obtain ⟨hx, hb, hown, hml, hR, hr, hlk, hts, hKK, hinj, hzX⟩ := hK
  intro H locs ls hP hS hl'
  exact lv_iload_n hx hb hd hi (lv_at hl' k (mL_at hl)) (kk H locs ls hP hS hl')
theorem j_lload (hK : KO K cc own nL d rt) {i : Nat} {x : Int64} (hd : decode cc pc = .ok (.lload i, 2)) (k : Nat) (hl : L[k]? = some (i, .long x)) (kk : J K (pc + 2) L (.long x :: st) S) : J K pc L st S := by
  obtain ⟨⟨p, l, e, R, s⟩, ⟨m, args, below, meth, c⟩, ⟨D, ad, cy⟩, ⟨Q, nc, ns⟩⟩ := K
  obtain ⟨hx, hb, hown, hml, hR, hr, hlk, hts, hKK, hinj, hzX⟩ := hK
  intro H locs ls hP hS hl'
  exact lv_lload hx hb hd (lv_at hl' k (mL_at hl)) (kk H locs ls hP hS hl')
theorem j_lload_n (hK : KO K cc own nL d rt) {f : Fin 4} {i : Nat} {x : Int64} (hd : decode cc pc = .ok (.lload_n f, 1)) (k : Nat) (hi : (f : Nat) = i) (hl : L[k]? = some (i, .long x)) (kk : J K (pc + 1) L (.long x :: st) S) : J K pc L st S := by
  obtain ⟨⟨p, l, e, R, s⟩, ⟨m, args, below, meth, c⟩, ⟨D, ad, cy⟩, ⟨Q, nc, ns⟩⟩ := K
  obtain ⟨hx, hb, hown, hml, hR, hr, hlk, hts, hKK, hinj, hzX⟩ := hK
  intro H locs ls hP hS hl'
  exact lv_lload_n hx hb hd hi (lv_at hl' k (mL_at hl)) (kk H locs ls hP hS hl')
theorem j_aload (hK : KO K cc own nL d rt) {i : Nat} {x : Nat} (hd : decode cc pc = .ok (.aload i, 2)) (k : Nat) (hl : L[k]? = some (i, .ref x)) (kk : J K (pc + 2) L (.ref x :: st) S) : J K pc L st S := by
  obtain ⟨⟨p, l, e, R, s⟩, ⟨m, args, below, meth, c⟩, ⟨D, ad, cy⟩, ⟨Q, nc, ns⟩⟩ := K
  obtain ⟨hx, hb, hown, hml, hR, hr, hlk, hts, hKK, hinj, hzX⟩ := hK
  intro H locs ls hP hS hl'
  exact lv_aload hx hb hd (lv_at hl' k (mL_at hl)) (kk H locs ls hP hS hl')
theorem j_aload_n (hK : KO K cc own nL d rt) {f : Fin 4} {i : Nat} {x : Nat} (hd : decode cc pc = .ok (.aload_n f, 1)) (k : Nat) (hi : (f : Nat) = i) (hl : L[k]? = some (i, .ref x)) (kk : J K (pc + 1) L (.ref x :: st) S) : J K pc L st S := by
  obtain ⟨⟨p, l, e, R, s⟩, ⟨m, args, below, meth, c⟩, ⟨D, ad, cy⟩, ⟨Q, nc, ns⟩⟩ := K
  obtain ⟨hx, hb, hown, hml, hR, hr, hlk, hts, hKK, hinj, hzX⟩ := hK
  intro H locs ls hP hS hl'
  exact lv_aload_n hx hb hd hi (lv_at hl' k (mL_at hl)) (kk H locs ls hP hS hl')
theorem j_istore (hK : KO K cc own nL d rt) {i : Nat} {x : Int32} (hd : decode cc pc = .ok (.istore i, 2)) (hn : i < nL) (hl : (i, Value.int x) :: L.filter (fun q => !(q.1 == i) && !(q.1 + 1 == i && q.2.category == 2)) = L') (kk : J K (pc + 2) L' st S) : J K pc L (.int x :: st) S := by
  obtain ⟨⟨p, l, e, R, s⟩, ⟨m, args, below, meth, c⟩, ⟨D, ad, cy⟩, ⟨Q, nc, ns⟩⟩ := K
  obtain ⟨hx, hb, hown, hml, hR, hr, hlk, hts, hKK, hinj, hzX⟩ := hK
  intro H locs ls hP hS hl'
  exact lv_istore hx hb hd hl' (by rw [hml]; exact hn) (mL_f1 ad _ _ hl) (fun ls' h => kk H locs ls' hP hS h)
theorem j_istore_n (hK : KO K cc own nL d rt) {f : Fin 4} {i : Nat} {x : Int32} (hd : decode cc pc = .ok (.istore_n f, 1)) (hi : (f : Nat) = i) (hn : i < nL) (hl : (i, Value.int x) :: L.filter (fun q => !(q.1 == i) && !(q.1 + 1 == i && q.2.category == 2)) = L') (kk : J K (pc + 1) L' st S) : J K pc L (.int x :: st) S := by
  obtain ⟨⟨p, l, e, R, s⟩, ⟨m, args, below, meth, c⟩, ⟨D, ad, cy⟩, ⟨Q, nc, ns⟩⟩ := K
  obtain ⟨hx, hb, hown, hml, hR, hr, hlk, hts, hKK, hinj, hzX⟩ := hK
  intro H locs ls hP hS hl'
  exact lv_istore_n hx hb hd hi hl' (by rw [hml]; exact hn) (mL_f1 ad _ _ hl) (fun ls' h => kk H locs ls' hP hS h)
theorem j_lstore (hK : KO K cc own nL d rt) {i : Nat} {x : Int64} (hd : decode cc pc = .ok (.lstore i, 2)) (hn : i + 1 < nL) (hl : (i, Value.long x) :: L.filter (fun q => !(q.1 == i) && (!(q.1 == i + 1) && !(q.1 + 1 == i && q.2.category == 2))) = L') (kk : J K (pc + 2) L' st S) : J K pc L (.long x :: st) S := by
  obtain ⟨⟨p, l, e, R, s⟩, ⟨m, args, below, meth, c⟩, ⟨D, ad, cy⟩, ⟨Q, nc, ns⟩⟩ := K
  obtain ⟨hx, hb, hown, hml, hR, hr, hlk, hts, hKK, hinj, hzX⟩ := hK
  intro H locs ls hP hS hl'
  exact lv_lstore hx hb hd hl' (by rw [hml]; exact hn) (mL_f2 ad _ _ hl) (fun ls' h => kk H locs ls' hP hS h)
theorem j_lstore_n (hK : KO K cc own nL d rt) {f : Fin 4} {i : Nat} {x : Int64} (hd : decode cc pc = .ok (.lstore_n f, 1)) (hi : (f : Nat) = i) (hn : i + 1 < nL) (hl : (i, Value.long x) :: L.filter (fun q => !(q.1 == i) && (!(q.1 == i + 1) && !(q.1 + 1 == i && q.2.category == 2))) = L') (kk : J K (pc + 1) L' st S) : J K pc L (.long x :: st) S := by
  obtain ⟨⟨p, l, e, R, s⟩, ⟨m, args, below, meth, c⟩, ⟨D, ad, cy⟩, ⟨Q, nc, ns⟩⟩ := K
  obtain ⟨hx, hb, hown, hml, hR, hr, hlk, hts, hKK, hinj, hzX⟩ := hK
  intro H locs ls hP hS hl'
  exact lv_lstore_n hx hb hd hi hl' (by rw [hml]; exact hn) (mL_f2 ad _ _ hl) (fun ls' h => kk H locs ls' hP hS h)
theorem j_astore (hK : KO K cc own nL d rt) {i : Nat} {x : Nat} (hd : decode cc pc = .ok (.astore i, 2)) (hn : i < nL) (hl : (i, Value.ref x) :: L.filter (fun q => !(q.1 == i) && !(q.1 + 1 == i && q.2.category == 2)) = L') (kk : J K (pc + 2) L' st S) : J K pc L (.ref x :: st) S := by
  obtain ⟨⟨p, l, e, R, s⟩, ⟨m, args, below, meth, c⟩, ⟨D, ad, cy⟩, ⟨Q, nc, ns⟩⟩ := K
  obtain ⟨hx, hb, hown, hml, hR, hr, hlk, hts, hKK, hinj, hzX⟩ := hK
  intro H locs ls hP hS hl'
  exact lv_astore hx hb hd hl' (by rw [hml]; exact hn) (mL_f1 ad _ _ hl) (fun ls' h => kk H locs ls' hP hS h)
theorem j_astore_n (hK : KO K cc own nL d rt) {f : Fin 4} {i : Nat} {x : Nat} (hd : decode cc pc = .ok (.astore_n f, 1)) (hi : (f : Nat) = i) (hn : i < nL) (hl : (i, Value.ref x) :: L.filter (fun q => !(q.1 == i) && !(q.1 + 1 == i && q.2.category == 2)) = L') (kk : J K (pc + 1) L' st S) : J K pc L (.ref x :: st) S := by
  obtain ⟨⟨p, l, e, R, s⟩, ⟨m, args, below, meth, c⟩, ⟨D, ad, cy⟩, ⟨Q, nc, ns⟩⟩ := K
  obtain ⟨hx, hb, hown, hml, hR, hr, hlk, hts, hKK, hinj, hzX⟩ := hK
  intro H locs ls hP hS hl'
  exact lv_astore_n hx hb hd hi hl' (by rw [hml]; exact hn) (mL_f1 ad _ _ hl) (fun ls' h => kk H locs ls' hP hS h)
theorem j_iinc (hK : KO K cc own nL d rt) {i : Nat} {n : Int} {x v : Int32} (hd : decode cc pc = .ok (.iinc i n, 3)) (k : Nat) (hk : L[k]? = some (i, .int x)) (hv : x + Int32.ofInt n = v) (hn : i < nL) (hl : (i, Value.int v) :: L.filter (fun q => !(q.1 == i) && !(q.1 + 1 == i && q.2.category == 2)) = L') (kk : J K (pc + 3) L' st S) : J K pc L st S := by
  obtain ⟨⟨p, l, e, R, s⟩, ⟨m, args, below, meth, c⟩, ⟨D, ad, cy⟩, ⟨Q, nc, ns⟩⟩ := K
  obtain ⟨hx, hb, hown, hml, hR, hr, hlk, hts, hKK, hinj, hzX⟩ := hK
  intro H locs ls hP hS hl'
  exact lv_iinc (k := k) hx hb hd hl' (mL_at hk) hv (by rw [hml]; exact hn) (mL_f1 ad _ _ hl) (fun ls' h => kk H locs ls' hP hS h)
theorem j_iconst (hK : KO K cc own nL d rt) {n : Int} (v : Int32) (hd : decode cc pc = .ok (.iconst n, 1)) (hv : Int32.ofInt n = v) (kk : J K (pc + 1) L (.int v :: st) S) : J K pc L st S := by
  obtain ⟨⟨p, l, e, R, s⟩, ⟨m, args, below, meth, c⟩, ⟨D, ad, cy⟩, ⟨Q, nc, ns⟩⟩ := K
  obtain ⟨hx, hb, hown, hml, hR, hr, hlk, hts, hKK, hinj, hzX⟩ := hK
  intro H locs ls hP hS hl'
  exact lv_iconst hx hb hd hv (kk H locs ls hP hS hl')
theorem j_bipush (hK : KO K cc own nL d rt) {n : Int} (v : Int32) (hd : decode cc pc = .ok (.bipush n, 2)) (hv : (Int8.ofInt n).toInt32 = v) (kk : J K (pc + 2) L (.int v :: st) S) : J K pc L st S := by
  obtain ⟨⟨p, l, e, R, s⟩, ⟨m, args, below, meth, c⟩, ⟨D, ad, cy⟩, ⟨Q, nc, ns⟩⟩ := K
  obtain ⟨hx, hb, hown, hml, hR, hr, hlk, hts, hKK, hinj, hzX⟩ := hK
  intro H locs ls hP hS hl'
  exact lv_bipush hx hb hd hv (kk H locs ls hP hS hl')
theorem j_sipush (hK : KO K cc own nL d rt) {n : Int} (v : Int32) (hd : decode cc pc = .ok (.sipush n, 3)) (hv : (Int16.ofInt n).toInt32 = v) (kk : J K (pc + 3) L (.int v :: st) S) : J K pc L st S := by
  obtain ⟨⟨p, l, e, R, s⟩, ⟨m, args, below, meth, c⟩, ⟨D, ad, cy⟩, ⟨Q, nc, ns⟩⟩ := K
  obtain ⟨hx, hb, hown, hml, hR, hr, hlk, hts, hKK, hinj, hzX⟩ := hK
  intro H locs ls hP hS hl'
  exact lv_sipush hx hb hd hv (kk H locs ls hP hS hl')
theorem j_lconst (hK : KO K cc own nL d rt) {n : Fin 2} (v : Int64) (hd : decode cc pc = .ok (.lconst n, 1)) (hv : Int64.ofNat (n : Nat) = v) (kk : J K (pc + 1) L (.long v :: st) S) : J K pc L st S := by
  obtain ⟨⟨p, l, e, R, s⟩, ⟨m, args, below, meth, c⟩, ⟨D, ad, cy⟩, ⟨Q, nc, ns⟩⟩ := K
  obtain ⟨hx, hb, hown, hml, hR, hr, hlk, hts, hKK, hinj, hzX⟩ := hK
  intro H locs ls hP hS hl'
  exact lv_lconst hx hb hd hv (kk H locs ls hP hS hl')
theorem j_ldc (hK : KO K cc own nL d rt) {index : Nat} {v : Int32} (hw : Cond.constant own index v ∈ zT) (hd : decode cc pc = .ok (.ldc index, 2)) (kk : J K (pc + 2) L (.int v :: st) S) : J K pc L st S := by
  obtain ⟨⟨p, l, e, R, s⟩, ⟨m, args, below, meth, c⟩, ⟨D, ad, cy⟩, ⟨Q, nc, ns⟩⟩ := K
  obtain ⟨hx, hb, hown, hml, hR, hr, hlk, hts, hKK, hinj, hzX⟩ := hK
  intro H locs ls hP hS hl'
  exact lv_ldc hx hb hown (hts _ hw) hd (kk H locs ls hP hS hl')
theorem j_ldcw (hK : KO K cc own nL d rt) {index : Nat} {v : Int32} (hw : Cond.constant own index v ∈ zT) (hd : decode cc pc = .ok (.ldc_w index, 3)) (kk : J K (pc + 3) L (.int v :: st) S) : J K pc L st S := by
  obtain ⟨⟨p, l, e, R, s⟩, ⟨m, args, below, meth, c⟩, ⟨D, ad, cy⟩, ⟨Q, nc, ns⟩⟩ := K
  obtain ⟨hx, hb, hown, hml, hR, hr, hlk, hts, hKK, hinj, hzX⟩ := hK
  intro H locs ls hP hS hl'
  exact lv_ldcw hx hb hown (hts _ hw) hd (kk H locs ls hP hS hl')
theorem j_ldc2 (hK : KO K cc own nL d rt) {index : Nat} {v : Int64} (hw : Cond.constantLong own index v ∈ zT) (hd : decode cc pc = .ok (.ldc2_w index, 3)) (kk : J K (pc + 3) L (.long v :: st) S) : J K pc L st S := by
  obtain ⟨⟨p, l, e, R, s⟩, ⟨m, args, below, meth, c⟩, ⟨D, ad, cy⟩, ⟨Q, nc, ns⟩⟩ := K
  obtain ⟨hx, hb, hown, hml, hR, hr, hlk, hts, hKK, hinj, hzX⟩ := hK
  intro H locs ls hP hS hl'
  exact lv_ldc2 hx hb hown (hts _ hw) hd (kk H locs ls hP hS hl')
theorem j_iadd (hK : KO K cc own nL d rt) {x y : Int32} (hd : decode cc pc = .ok (.iadd, 1)) (kk : J K (pc + 1) L (.int (x + y) :: st) S) : J K pc L (.int y :: .int x :: st) S := by
  obtain ⟨⟨p, l, e, R, s⟩, ⟨m, args, below, meth, c⟩, ⟨D, ad, cy⟩, ⟨Q, nc, ns⟩⟩ := K
  obtain ⟨hx, hb, hown, hml, hR, hr, hlk, hts, hKK, hinj, hzX⟩ := hK
  intro H locs ls hP hS hl'
  exact lv_iadd hx hb hd (kk H locs ls hP hS hl')
theorem j_isub (hK : KO K cc own nL d rt) {x y : Int32} (hd : decode cc pc = .ok (.isub, 1)) (kk : J K (pc + 1) L (.int (x - y) :: st) S) : J K pc L (.int y :: .int x :: st) S := by
  obtain ⟨⟨p, l, e, R, s⟩, ⟨m, args, below, meth, c⟩, ⟨D, ad, cy⟩, ⟨Q, nc, ns⟩⟩ := K
  obtain ⟨hx, hb, hown, hml, hR, hr, hlk, hts, hKK, hinj, hzX⟩ := hK
  intro H locs ls hP hS hl'
  exact lv_isub hx hb hd (kk H locs ls hP hS hl')
theorem j_imul (hK : KO K cc own nL d rt) {x y : Int32} (hd : decode cc pc = .ok (.imul, 1)) (kk : J K (pc + 1) L (.int (x * y) :: st) S) : J K pc L (.int y :: .int x :: st) S := by
  obtain ⟨⟨p, l, e, R, s⟩, ⟨m, args, below, meth, c⟩, ⟨D, ad, cy⟩, ⟨Q, nc, ns⟩⟩ := K
  obtain ⟨hx, hb, hown, hml, hR, hr, hlk, hts, hKK, hinj, hzX⟩ := hK
  intro H locs ls hP hS hl'
  exact lv_imul hx hb hd (kk H locs ls hP hS hl')
theorem j_iand (hK : KO K cc own nL d rt) {x y : Int32} (hd : decode cc pc = .ok (.iand, 1)) (kk : J K (pc + 1) L (.int (x &&& y) :: st) S) : J K pc L (.int y :: .int x :: st) S := by
  obtain ⟨⟨p, l, e, R, s⟩, ⟨m, args, below, meth, c⟩, ⟨D, ad, cy⟩, ⟨Q, nc, ns⟩⟩ := K
  obtain ⟨hx, hb, hown, hml, hR, hr, hlk, hts, hKK, hinj, hzX⟩ := hK
  intro H locs ls hP hS hl'
  exact lv_iand hx hb hd (kk H locs ls hP hS hl')
theorem j_ior (hK : KO K cc own nL d rt) {x y : Int32} (hd : decode cc pc = .ok (.ior, 1)) (kk : J K (pc + 1) L (.int (x ||| y) :: st) S) : J K pc L (.int y :: .int x :: st) S := by
  obtain ⟨⟨p, l, e, R, s⟩, ⟨m, args, below, meth, c⟩, ⟨D, ad, cy⟩, ⟨Q, nc, ns⟩⟩ := K
  obtain ⟨hx, hb, hown, hml, hR, hr, hlk, hts, hKK, hinj, hzX⟩ := hK
  intro H locs ls hP hS hl'
  exact lv_ior hx hb hd (kk H locs ls hP hS hl')
theorem j_ixor (hK : KO K cc own nL d rt) {x y : Int32} (hd : decode cc pc = .ok (.ixor, 1)) (kk : J K (pc + 1) L (.int (x ^^^ y) :: st) S) : J K pc L (.int y :: .int x :: st) S := by
  obtain ⟨⟨p, l, e, R, s⟩, ⟨m, args, below, meth, c⟩, ⟨D, ad, cy⟩, ⟨Q, nc, ns⟩⟩ := K
  obtain ⟨hx, hb, hown, hml, hR, hr, hlk, hts, hKK, hinj, hzX⟩ := hK
  intro H locs ls hP hS hl'
  exact lv_ixor hx hb hd (kk H locs ls hP hS hl')
theorem j_idiv (hK : KO K cc own nL d rt) {x y : Int32} (hd : decode cc pc = .ok (.idiv, 1)) (hne : ¬ y = 0) (kk : J K (pc + 1) L (.int (x / y) :: st) S) : J K pc L (.int y :: .int x :: st) S := by
  obtain ⟨⟨p, l, e, R, s⟩, ⟨m, args, below, meth, c⟩, ⟨D, ad, cy⟩, ⟨Q, nc, ns⟩⟩ := K
  obtain ⟨hx, hb, hown, hml, hR, hr, hlk, hts, hKK, hinj, hzX⟩ := hK
  intro H locs ls hP hS hl'
  exact lv_idiv hx hb hd hne (kk H locs ls hP hS hl')
theorem j_irem (hK : KO K cc own nL d rt) {x y : Int32} (hd : decode cc pc = .ok (.irem, 1)) (hne : ¬ y = 0) (kk : J K (pc + 1) L (.int (x - x / y * y) :: st) S) : J K pc L (.int y :: .int x :: st) S := by
  obtain ⟨⟨p, l, e, R, s⟩, ⟨m, args, below, meth, c⟩, ⟨D, ad, cy⟩, ⟨Q, nc, ns⟩⟩ := K
  obtain ⟨hx, hb, hown, hml, hR, hr, hlk, hts, hKK, hinj, hzX⟩ := hK
  intro H locs ls hP hS hl'
  exact lv_irem hx hb hd hne (kk H locs ls hP hS hl')
theorem j_ishl (hK : KO K cc own nL d rt) {x y : Int32} (hd : decode cc pc = .ok (.ishl, 1)) (kk : J K (pc + 1) L (.int (x <<< (y &&& 31)) :: st) S) : J K pc L (.int y :: .int x :: st) S := by
  obtain ⟨⟨p, l, e, R, s⟩, ⟨m, args, below, meth, c⟩, ⟨D, ad, cy⟩, ⟨Q, nc, ns⟩⟩ := K
  obtain ⟨hx, hb, hown, hml, hR, hr, hlk, hts, hKK, hinj, hzX⟩ := hK
  intro H locs ls hP hS hl'
  exact lv_ishl hx hb hd (kk H locs ls hP hS hl')
theorem j_ishr (hK : KO K cc own nL d rt) {x y : Int32} (hd : decode cc pc = .ok (.ishr, 1)) (kk : J K (pc + 1) L (.int (x >>> (y &&& 31)) :: st) S) : J K pc L (.int y :: .int x :: st) S := by
  obtain ⟨⟨p, l, e, R, s⟩, ⟨m, args, below, meth, c⟩, ⟨D, ad, cy⟩, ⟨Q, nc, ns⟩⟩ := K
  obtain ⟨hx, hb, hown, hml, hR, hr, hlk, hts, hKK, hinj, hzX⟩ := hK
  intro H locs ls hP hS hl'
  exact lv_ishr hx hb hd (kk H locs ls hP hS hl')
theorem j_ladd (hK : KO K cc own nL d rt) {x y : Int64} (hd : decode cc pc = .ok (.ladd, 1)) (kk : J K (pc + 1) L (.long (x + y) :: st) S) : J K pc L (.long y :: .long x :: st) S := by
  obtain ⟨⟨p, l, e, R, s⟩, ⟨m, args, below, meth, c⟩, ⟨D, ad, cy⟩, ⟨Q, nc, ns⟩⟩ := K
  obtain ⟨hx, hb, hown, hml, hR, hr, hlk, hts, hKK, hinj, hzX⟩ := hK
  intro H locs ls hP hS hl'
  exact lv_ladd hx hb hd (kk H locs ls hP hS hl')
theorem j_lsub (hK : KO K cc own nL d rt) {x y : Int64} (hd : decode cc pc = .ok (.lsub, 1)) (kk : J K (pc + 1) L (.long (x - y) :: st) S) : J K pc L (.long y :: .long x :: st) S := by
  obtain ⟨⟨p, l, e, R, s⟩, ⟨m, args, below, meth, c⟩, ⟨D, ad, cy⟩, ⟨Q, nc, ns⟩⟩ := K
  obtain ⟨hx, hb, hown, hml, hR, hr, hlk, hts, hKK, hinj, hzX⟩ := hK
  intro H locs ls hP hS hl'
  exact lv_lsub hx hb hd (kk H locs ls hP hS hl')
theorem j_lmul (hK : KO K cc own nL d rt) {x y : Int64} (hd : decode cc pc = .ok (.lmul, 1)) (kk : J K (pc + 1) L (.long (x * y) :: st) S) : J K pc L (.long y :: .long x :: st) S := by
  obtain ⟨⟨p, l, e, R, s⟩, ⟨m, args, below, meth, c⟩, ⟨D, ad, cy⟩, ⟨Q, nc, ns⟩⟩ := K
  obtain ⟨hx, hb, hown, hml, hR, hr, hlk, hts, hKK, hinj, hzX⟩ := hK
  intro H locs ls hP hS hl'
  exact lv_lmul hx hb hd (kk H locs ls hP hS hl')
theorem j_ldiv (hK : KO K cc own nL d rt) {x y : Int64} (hd : decode cc pc = .ok (.ldiv, 1)) (hne : ¬ y = 0) (kk : J K (pc + 1) L (.long (x / y) :: st) S) : J K pc L (.long y :: .long x :: st) S := by
  obtain ⟨⟨p, l, e, R, s⟩, ⟨m, args, below, meth, c⟩, ⟨D, ad, cy⟩, ⟨Q, nc, ns⟩⟩ := K
  obtain ⟨hx, hb, hown, hml, hR, hr, hlk, hts, hKK, hinj, hzX⟩ := hK
  intro H locs ls hP hS hl'
  exact lv_ldiv hx hb hd hne (kk H locs ls hP hS hl')
theorem j_lrem (hK : KO K cc own nL d rt) {x y : Int64} (hd : decode cc pc = .ok (.lrem, 1)) (hne : ¬ y = 0) (kk : J K (pc + 1) L (.long (x - x / y * y) :: st) S) : J K pc L (.long y :: .long x :: st) S := by
  obtain ⟨⟨p, l, e, R, s⟩, ⟨m, args, below, meth, c⟩, ⟨D, ad, cy⟩, ⟨Q, nc, ns⟩⟩ := K
  obtain ⟨hx, hb, hown, hml, hR, hr, hlk, hts, hKK, hinj, hzX⟩ := hK
  intro H locs ls hP hS hl'
  exact lv_lrem hx hb hd hne (kk H locs ls hP hS hl')
theorem j_ineg (hK : KO K cc own nL d rt) {x : Int32} (hd : decode cc pc = .ok (.ineg, 1)) (kk : J K (pc + 1) L (.int (-x) :: st) S) : J K pc L (.int x :: st) S := by
  obtain ⟨⟨p, l, e, R, s⟩, ⟨m, args, below, meth, c⟩, ⟨D, ad, cy⟩, ⟨Q, nc, ns⟩⟩ := K
  obtain ⟨hx, hb, hown, hml, hR, hr, hlk, hts, hKK, hinj, hzX⟩ := hK
  intro H locs ls hP hS hl'
  exact lv_ineg hx hb hd (kk H locs ls hP hS hl')
def ushr (x y : Int32) : Int32 := (x.toUInt32 >>> (y.toUInt32 &&& Int32.toUInt32 31)).toInt32
theorem j_iushr (hK : KO K cc own nL d rt) {x y : Int32} (hd : decode cc pc = .ok (.iushr, 1)) (kk : J K (pc + 1) L (.int (ushr x y) :: st) S) : J K pc L (.int y :: .int x :: st) S := by
  obtain ⟨⟨p, l, e, R, s⟩, ⟨m, args, below, meth, c⟩, ⟨D, ad, cy⟩, ⟨Q, nc, ns⟩⟩ := K
  obtain ⟨hx, hb, hown, hml, hR, hr, hlk, hts, hKK, hinj, hzX⟩ := hK
  intro H locs ls hP hS hl'
  exact lv_iushr hx hb hd rfl (kk H locs ls hP hS hl')
theorem j_i2l (hK : KO K cc own nL d rt) {x : Int32} (hd : decode cc pc = .ok (.i2l, 1)) (kk : J K (pc + 1) L (.long (x.toInt64) :: st) S) : J K pc L (.int x :: st) S := by
  obtain ⟨⟨p, l, e, R, s⟩, ⟨m, args, below, meth, c⟩, ⟨D, ad, cy⟩, ⟨Q, nc, ns⟩⟩ := K
  obtain ⟨hx, hb, hown, hml, hR, hr, hlk, hts, hKK, hinj, hzX⟩ := hK
  intro H locs ls hP hS hl'
  exact lv_i2l hx hb hd rfl (kk H locs ls hP hS hl')
theorem j_l2i (hK : KO K cc own nL d rt) {x : Int64} (hd : decode cc pc = .ok (.l2i, 1)) (kk : J K (pc + 1) L (.int (x.toInt32) :: st) S) : J K pc L (.long x :: st) S := by
  obtain ⟨⟨p, l, e, R, s⟩, ⟨m, args, below, meth, c⟩, ⟨D, ad, cy⟩, ⟨Q, nc, ns⟩⟩ := K
  obtain ⟨hx, hb, hown, hml, hR, hr, hlk, hts, hKK, hinj, hzX⟩ := hK
  intro H locs ls hP hS hl'
  exact lv_l2i hx hb hd rfl (kk H locs ls hP hS hl')
theorem j_i2b (hK : KO K cc own nL d rt) {x : Int32} (hd : decode cc pc = .ok (.i2b, 1)) (kk : J K (pc + 1) L (.int (x.toInt8.toInt32) :: st) S) : J K pc L (.int x :: st) S := by
  obtain ⟨⟨p, l, e, R, s⟩, ⟨m, args, below, meth, c⟩, ⟨D, ad, cy⟩, ⟨Q, nc, ns⟩⟩ := K
  obtain ⟨hx, hb, hown, hml, hR, hr, hlk, hts, hKK, hinj, hzX⟩ := hK
  intro H locs ls hP hS hl'
  exact lv_i2b hx hb hd rfl (kk H locs ls hP hS hl')
theorem j_i2s (hK : KO K cc own nL d rt) {x : Int32} (hd : decode cc pc = .ok (.i2s, 1)) (kk : J K (pc + 1) L (.int (x.toInt16.toInt32) :: st) S) : J K pc L (.int x :: st) S := by
  obtain ⟨⟨p, l, e, R, s⟩, ⟨m, args, below, meth, c⟩, ⟨D, ad, cy⟩, ⟨Q, nc, ns⟩⟩ := K
  obtain ⟨hx, hb, hown, hml, hR, hr, hlk, hts, hKK, hinj, hzX⟩ := hK
  intro H locs ls hP hS hl'
  exact lv_i2s hx hb hd rfl (kk H locs ls hP hS hl')
theorem j_i2c (hK : KO K cc own nL d rt) {x : Int32} (hd : decode cc pc = .ok (.i2c, 1)) (kk : J K (pc + 1) L (.int ((x.toUInt32 % 65536).toInt32) :: st) S) : J K pc L (.int x :: st) S := by
  obtain ⟨⟨p, l, e, R, s⟩, ⟨m, args, below, meth, c⟩, ⟨D, ad, cy⟩, ⟨Q, nc, ns⟩⟩ := K
  obtain ⟨hx, hb, hown, hml, hR, hr, hlk, hts, hKK, hinj, hzX⟩ := hK
  intro H locs ls hP hS hl'
  exact lv_i2c hx hb hd rfl (kk H locs ls hP hS hl')
theorem j_lcmp (hK : KO K cc own nL d rt) {x y : Int64} (hd : decode cc pc = .ok (.lcmp, 1)) (kk : J K (pc + 1) L (.int (lg_cmp x y) :: st) S) : J K pc L (.long y :: .long x :: st) S := by
  obtain ⟨⟨p, l, e, R, s⟩, ⟨m, args, below, meth, c⟩, ⟨D, ad, cy⟩, ⟨Q, nc, ns⟩⟩ := K
  obtain ⟨hx, hb, hown, hml, hR, hr, hlk, hts, hKK, hinj, hzX⟩ := hK
  intro H locs ls hP hS hl'
  exact W.lcmp hx hb hd (kk H locs ls hP hS hl')
theorem j_dup (hK : KO K cc own nL d rt) {v : Value} (hd : decode cc pc = .ok (.dup, 1)) (hv : v.category = 1) (kk : J K (pc + 1) L (v :: v :: st) S) : J K pc L (v :: st) S := by
  obtain ⟨⟨p, l, e, R, s⟩, ⟨m, args, below, meth, c⟩, ⟨D, ad, cy⟩, ⟨Q, nc, ns⟩⟩ := K
  obtain ⟨hx, hb, hown, hml, hR, hr, hlk, hts, hKK, hinj, hzX⟩ := hK
  intro H locs ls hP hS hl'
  exact lv_dup hx hb hd ((mv_cat ad v).trans hv) (kk H locs ls hP hS hl')
theorem j_pop (hK : KO K cc own nL d rt) {v : Value} (hd : decode cc pc = .ok (.pop, 1)) (hv : v.category = 1) (kk : J K (pc + 1) L st S) : J K pc L (v :: st) S := by
  obtain ⟨⟨p, l, e, R, s⟩, ⟨m, args, below, meth, c⟩, ⟨D, ad, cy⟩, ⟨Q, nc, ns⟩⟩ := K
  obtain ⟨hx, hb, hown, hml, hR, hr, hlk, hts, hKK, hinj, hzX⟩ := hK
  intro H locs ls hP hS hl'
  exact lv_pop hx hb hd ((mv_cat ad v).trans hv) (kk H locs ls hP hS hl')
theorem j_dup2 (hK : KO K cc own nL d rt) {v w : Value} (hd : decode cc pc = .ok (.dup2, 1)) (hv : v.category = 1) (hw : w.category = 1) (kk : J K (pc + 1) L (v :: w :: v :: w :: st) S) : J K pc L (v :: w :: st) S := by
  obtain ⟨⟨p, l, e, R, s⟩, ⟨m, args, below, meth, c⟩, ⟨D, ad, cy⟩, ⟨Q, nc, ns⟩⟩ := K
  obtain ⟨hx, hb, hown, hml, hR, hr, hlk, hts, hKK, hinj, hzX⟩ := hK
  intro H locs ls hP hS hl'
  exact lv_dup2_11 hx hb hd ((mv_cat ad v).trans hv) ((mv_cat ad w).trans hw) (kk H locs ls hP hS hl')
theorem j_if_eq (hK : KO K cc own nL d rt) {x : Int32} {off : Int} (tgt : Nat) (hd : decode cc pc = .ok (.ifCond .eq off, 3)) (ht : (pc : Int) + off = (tgt : Int)) (kt : x = 0 → J K tgt L st S) (kf : ¬ x = 0 → J K (pc + 3) L st S) : J K pc L (.int x :: st) S := by
  obtain ⟨⟨p, l, e, R, s⟩, ⟨m, args, below, meth, c⟩, ⟨D, ad, cy⟩, ⟨Q, nc, ns⟩⟩ := K
  obtain ⟨hx, hb, hown, hml, hR, hr, hlk, hts, hKK, hinj, hzX⟩ := hK
  intro H locs ls hP hS hl'
  exact lv_if_eq hx hb hd ht (fun h => kt h H locs ls hP hS hl') (fun h => kf h H locs ls hP hS hl')
theorem j_icmp_eq (hK : KO K cc own nL d rt) {x y : Int32} {off : Int} (tgt : Nat) (hd : decode cc pc = .ok (.if_icmp .eq off, 3)) (ht : (pc : Int) + off = (tgt : Int)) (kt : x = y → J K tgt L st S) (kf : ¬ x = y → J K (pc + 3) L st S) : J K pc L (.int y :: .int x :: st) S := by
  obtain ⟨⟨p, l, e, R, s⟩, ⟨m, args, below, meth, c⟩, ⟨D, ad, cy⟩, ⟨Q, nc, ns⟩⟩ := K
  obtain ⟨hx, hb, hown, hml, hR, hr, hlk, hts, hKK, hinj, hzX⟩ := hK
  intro H locs ls hP hS hl'
  exact lv_icmp_eq hx hb hd ht (fun h => kt h H locs ls hP hS hl') (fun h => kf h H locs ls hP hS hl')
theorem j_if_ne (hK : KO K cc own nL d rt) {x : Int32} {off : Int} (tgt : Nat) (hd : decode cc pc = .ok (.ifCond .ne off, 3)) (ht : (pc : Int) + off = (tgt : Int)) (kt : ¬ x = 0 → J K tgt L st S) (kf : x = 0 → J K (pc + 3) L st S) : J K pc L (.int x :: st) S := by
  obtain ⟨⟨p, l, e, R, s⟩, ⟨m, args, below, meth, c⟩, ⟨D, ad, cy⟩, ⟨Q, nc, ns⟩⟩ := K
  obtain ⟨hx, hb, hown, hml, hR, hr, hlk, hts, hKK, hinj, hzX⟩ := hK
  intro H locs ls hP hS hl'
  exact lv_if_ne hx hb hd ht (fun h => kt h H locs ls hP hS hl') (fun h => kf h H locs ls hP hS hl')
theorem j_icmp_ne (hK : KO K cc own nL d rt) {x y : Int32} {off : Int} (tgt : Nat) (hd : decode cc pc = .ok (.if_icmp .ne off, 3)) (ht : (pc : Int) + off = (tgt : Int)) (kt : ¬ x = y → J K tgt L st S) (kf : x = y → J K (pc + 3) L st S) : J K pc L (.int y :: .int x :: st) S := by
  obtain ⟨⟨p, l, e, R, s⟩, ⟨m, args, below, meth, c⟩, ⟨D, ad, cy⟩, ⟨Q, nc, ns⟩⟩ := K
  obtain ⟨hx, hb, hown, hml, hR, hr, hlk, hts, hKK, hinj, hzX⟩ := hK
  intro H locs ls hP hS hl'
  exact lv_icmp_ne hx hb hd ht (fun h => kt h H locs ls hP hS hl') (fun h => kf h H locs ls hP hS hl')
theorem j_if_lt (hK : KO K cc own nL d rt) {x : Int32} {off : Int} (tgt : Nat) (hd : decode cc pc = .ok (.ifCond .lt off, 3)) (ht : (pc : Int) + off = (tgt : Int)) (kt : x < 0 → J K tgt L st S) (kf : ¬ x < 0 → J K (pc + 3) L st S) : J K pc L (.int x :: st) S := by
  obtain ⟨⟨p, l, e, R, s⟩, ⟨m, args, below, meth, c⟩, ⟨D, ad, cy⟩, ⟨Q, nc, ns⟩⟩ := K
  obtain ⟨hx, hb, hown, hml, hR, hr, hlk, hts, hKK, hinj, hzX⟩ := hK
  intro H locs ls hP hS hl'
  exact lv_if_lt hx hb hd ht (fun h => kt h H locs ls hP hS hl') (fun h => kf h H locs ls hP hS hl')
theorem j_icmp_lt (hK : KO K cc own nL d rt) {x y : Int32} {off : Int} (tgt : Nat) (hd : decode cc pc = .ok (.if_icmp .lt off, 3)) (ht : (pc : Int) + off = (tgt : Int)) (kt : x < y → J K tgt L st S) (kf : ¬ x < y → J K (pc + 3) L st S) : J K pc L (.int y :: .int x :: st) S := by
  obtain ⟨⟨p, l, e, R, s⟩, ⟨m, args, below, meth, c⟩, ⟨D, ad, cy⟩, ⟨Q, nc, ns⟩⟩ := K
  obtain ⟨hx, hb, hown, hml, hR, hr, hlk, hts, hKK, hinj, hzX⟩ := hK
  intro H locs ls hP hS hl'
  exact lv_icmp_lt hx hb hd ht (fun h => kt h H locs ls hP hS hl') (fun h => kf h H locs ls hP hS hl')
theorem j_if_ge (hK : KO K cc own nL d rt) {x : Int32} {off : Int} (tgt : Nat) (hd : decode cc pc = .ok (.ifCond .ge off, 3)) (ht : (pc : Int) + off = (tgt : Int)) (kt : 0 ≤ x → J K tgt L st S) (kf : ¬ 0 ≤ x → J K (pc + 3) L st S) : J K pc L (.int x :: st) S := by
  obtain ⟨⟨p, l, e, R, s⟩, ⟨m, args, below, meth, c⟩, ⟨D, ad, cy⟩, ⟨Q, nc, ns⟩⟩ := K
  obtain ⟨hx, hb, hown, hml, hR, hr, hlk, hts, hKK, hinj, hzX⟩ := hK
  intro H locs ls hP hS hl'
  exact lv_if_ge hx hb hd ht (fun h => kt h H locs ls hP hS hl') (fun h => kf h H locs ls hP hS hl')
theorem j_icmp_ge (hK : KO K cc own nL d rt) {x y : Int32} {off : Int} (tgt : Nat) (hd : decode cc pc = .ok (.if_icmp .ge off, 3)) (ht : (pc : Int) + off = (tgt : Int)) (kt : y ≤ x → J K tgt L st S) (kf : ¬ y ≤ x → J K (pc + 3) L st S) : J K pc L (.int y :: .int x :: st) S := by
  obtain ⟨⟨p, l, e, R, s⟩, ⟨m, args, below, meth, c⟩, ⟨D, ad, cy⟩, ⟨Q, nc, ns⟩⟩ := K
  obtain ⟨hx, hb, hown, hml, hR, hr, hlk, hts, hKK, hinj, hzX⟩ := hK
  intro H locs ls hP hS hl'
  exact lv_icmp_ge hx hb hd ht (fun h => kt h H locs ls hP hS hl') (fun h => kf h H locs ls hP hS hl')
theorem j_if_gt (hK : KO K cc own nL d rt) {x : Int32} {off : Int} (tgt : Nat) (hd : decode cc pc = .ok (.ifCond .gt off, 3)) (ht : (pc : Int) + off = (tgt : Int)) (kt : 0 < x → J K tgt L st S) (kf : ¬ 0 < x → J K (pc + 3) L st S) : J K pc L (.int x :: st) S := by
  obtain ⟨⟨p, l, e, R, s⟩, ⟨m, args, below, meth, c⟩, ⟨D, ad, cy⟩, ⟨Q, nc, ns⟩⟩ := K
  obtain ⟨hx, hb, hown, hml, hR, hr, hlk, hts, hKK, hinj, hzX⟩ := hK
  intro H locs ls hP hS hl'
  exact lv_if_gt hx hb hd ht (fun h => kt h H locs ls hP hS hl') (fun h => kf h H locs ls hP hS hl')
theorem j_icmp_gt (hK : KO K cc own nL d rt) {x y : Int32} {off : Int} (tgt : Nat) (hd : decode cc pc = .ok (.if_icmp .gt off, 3)) (ht : (pc : Int) + off = (tgt : Int)) (kt : y < x → J K tgt L st S) (kf : ¬ y < x → J K (pc + 3) L st S) : J K pc L (.int y :: .int x :: st) S := by
  obtain ⟨⟨p, l, e, R, s⟩, ⟨m, args, below, meth, c⟩, ⟨D, ad, cy⟩, ⟨Q, nc, ns⟩⟩ := K
  obtain ⟨hx, hb, hown, hml, hR, hr, hlk, hts, hKK, hinj, hzX⟩ := hK
  intro H locs ls hP hS hl'
  exact lv_icmp_gt hx hb hd ht (fun h => kt h H locs ls hP hS hl') (fun h => kf h H locs ls hP hS hl')
theorem j_if_le (hK : KO K cc own nL d rt) {x : Int32} {off : Int} (tgt : Nat) (hd : decode cc pc = .ok (.ifCond .le off, 3)) (ht : (pc : Int) + off = (tgt : Int)) (kt : x ≤ 0 → J K tgt L st S) (kf : ¬ x ≤ 0 → J K (pc + 3) L st S) : J K pc L (.int x :: st) S := by
  obtain ⟨⟨p, l, e, R, s⟩, ⟨m, args, below, meth, c⟩, ⟨D, ad, cy⟩, ⟨Q, nc, ns⟩⟩ := K
  obtain ⟨hx, hb, hown, hml, hR, hr, hlk, hts, hKK, hinj, hzX⟩ := hK
  intro H locs ls hP hS hl'
  exact lv_if_le hx hb hd ht (fun h => kt h H locs ls hP hS hl') (fun h => kf h H locs ls hP hS hl')
theorem j_icmp_le (hK : KO K cc own nL d rt) {x y : Int32} {off : Int} (tgt : Nat) (hd : decode cc pc = .ok (.if_icmp .le off, 3)) (ht : (pc : Int) + off = (tgt : Int)) (kt : x ≤ y → J K tgt L st S) (kf : ¬ x ≤ y → J K (pc + 3) L st S) : J K pc L (.int y :: .int x :: st) S := by
  obtain ⟨⟨p, l, e, R, s⟩, ⟨m, args, below, meth, c⟩, ⟨D, ad, cy⟩, ⟨Q, nc, ns⟩⟩ := K
  obtain ⟨hx, hb, hown, hml, hR, hr, hlk, hts, hKK, hinj, hzX⟩ := hK
  intro H locs ls hP hS hl'
  exact lv_icmp_le hx hb hd ht (fun h => kt h H locs ls hP hS hl') (fun h => kf h H locs ls hP hS hl')
theorem j_goto (hK : KO K cc own nL d rt) {off : Int} (tgt : Nat) (hd : decode cc pc = .ok (.goto off, 3)) (ht : (pc : Int) + off = (tgt : Int)) (kk : J K tgt L st S) : J K pc L st S := by
  obtain ⟨⟨p, l, e, R, s⟩, ⟨m, args, below, meth, c⟩, ⟨D, ad, cy⟩, ⟨Q, nc, ns⟩⟩ := K
  obtain ⟨hx, hb, hown, hml, hR, hr, hlk, hts, hKK, hinj, hzX⟩ := hK
  intro H locs ls hP hS hl'
  exact lv_goto hx hb hd ht (kk H locs ls hP hS hl')
theorem j_tabIn (hK : KO K cc own nL d rt) {dflt lo hi : Int} {offs : Array Int} {len : Nat} {x : Int32} {off : Int} (tgt : Nat) (hd : decode cc pc = .ok (.tableswitch dflt lo hi offs, len)) (h1 : ¬ x.toInt < lo) (h2 : ¬ hi < x.toInt) (ho : offs[(x.toInt - lo).toNat]? = some off) (ht : (pc : Int) + off = (tgt : Int)) (kk : J K tgt L st S) : J K pc L (.int x :: st) S := by
  obtain ⟨⟨p, l, e, R, s⟩, ⟨m, args, below, meth, c⟩, ⟨D, ad, cy⟩, ⟨Q, nc, ns⟩⟩ := K
  obtain ⟨hx, hb, hown, hml, hR, hr, hlk, hts, hKK, hinj, hzX⟩ := hK
  intro H locs ls hP hS hl'
  exact lv_tableIn hx hb hd h1 h2 ho ht (kk H locs ls hP hS hl')
theorem j_tabOut (hK : KO K cc own nL d rt) {dflt lo hi : Int} {offs : Array Int} {len : Nat} {x : Int32} (tgt : Nat) (hd : decode cc pc = .ok (.tableswitch dflt lo hi offs, len)) (h : x.toInt < lo ∨ hi < x.toInt) (ht : (pc : Int) + dflt = (tgt : Int)) (kk : J K tgt L st S) : J K pc L (.int x :: st) S := by
  obtain ⟨⟨p, l, e, R, s⟩, ⟨m, args, below, meth, c⟩, ⟨D, ad, cy⟩, ⟨Q, nc, ns⟩⟩ := K
  obtain ⟨hx, hb, hown, hml, hR, hr, hlk, hts, hKK, hinj, hzX⟩ := hK
  intro H locs ls hP hS hl'
  exact lv_tableOut hx hb hd h ht (kk H locs ls hP hS hl')
theorem j_lookup (hK : KO K cc own nL d rt) {dflt : Int} {ps : Array (Int × Int)} {len : Nat} {x : Int32} {off : Int} (tgt : Nat) (hd : decode cc pc = .ok (.lookupswitch dflt ps, len)) (hp : (ps.toList.zip (ps.toList.drop 1)).all (fun (a, next) => a.1 < next.1) = true) (ho : Op.lookupswitch.offset ps.toList dflt x.toInt = off) (ht : (pc : Int) + off = (tgt : Int)) (kk : J K tgt L st S) : J K pc L (.int x :: st) S := by
  obtain ⟨⟨p, l, e, R, s⟩, ⟨m, args, below, meth, c⟩, ⟨D, ad, cy⟩, ⟨Q, nc, ns⟩⟩ := K
  obtain ⟨hx, hb, hown, hml, hR, hr, hlk, hts, hKK, hinj, hzX⟩ := hK
  intro H locs ls hP hS hl'
  exact lv_lookup hx hb hd hp ho ht (kk H locs ls hP hS hl')
theorem zfs_at {ad : Nat → Nat} {o k n : Nat} (h : k < n) : ((List.range n).map (zv ad S o))[k]? = some (zv ad S o k) := by simp [List.getElem?_map, List.getElem?_range h]
theorem j_getv (hK : KO K cc own nL d rt) {index ci k o : Nat} {ty : FieldType} {fin : Bool} {v : Value} (hf : zFL own index ci k ty fin) (hd : decode cc pc = .ok (.getfield index, 3)) (ho : zO ci o) (hv : ∀ ad, zv ad S o k = mv ad v) (kk : J K (pc + 3) L (v :: st) S) : J K pc L (.ref o :: st) S := by
  obtain ⟨⟨p, l, e, R, s⟩, ⟨m, args, below, meth, c⟩, ⟨D, ad, cy⟩, ⟨Q, nc, ns⟩⟩ := K
  obtain ⟨hx, hb, hown, hml, hR, hr, hlk, hts, hKK, hinj, hzX⟩ := hK
  intro H locs ls hP hS hl'
  obtain ⟨C, T, N, ⟨hc, hN, hci, hin, -, -⟩, hk, hw, -, -⟩ := hf
  refine va_get (D := D) (v := mv ad v) hx hb hts hin hown hKK hP o (by rw [zw_get ho.2, zc_obj ho.1 hci]) hc k hk (hts _ hw) (fun _ h => h) ?_ hd (kk H locs ls hP hS hl')
  rw [zfs_at (by rw [← hN]; exact hk), hv]
theorem j_getI (hK : KO K cc own nL d rt) {index ci k o : Nat} {ty : FieldType} {fin : Bool} (hf : zFL own index ci k ty fin) (hd : decode cc pc = .ok (.getfield index, 3)) (ho : zO ci o) (hz : zf ci k = 0) (kk : J K (pc + 3) L (.int (gI S o k) :: st) S) : J K pc L (.ref o :: st) S :=
  j_getv hK hf hd ho (fun ad => by simp [zv, ho.1, hz, mv, gI]) kk
theorem j_getR (hK : KO K cc own nL d rt) {index ci k o r : Nat} {ty : FieldType} {fin : Bool} (hf : zFL own index ci k ty fin) (hd : decode cc pc = .ok (.getfield index, 3)) (ho : zO ci o) (hz : zf ci k = 1) (hr : zr o k = r) (kk : J K (pc + 3) L (.ref r :: st) S) : J K pc L (.ref o :: st) S :=
  j_getv hK hf hd ho (fun ad => by simp [zv, zd, ho.1, hz, mv, hr]) kk
theorem j_getD (hK : KO K cc own nL d rt) {index ci k o : Nat} {ty : FieldType} {fin : Bool} (hf : zFL own index ci k ty fin) (hd : decode cc pc = .ok (.getfield index, 3)) (ho : zO ci o) (hz : zf ci k = 2) (kk : J K (pc + 3) L (.ref (gI S o k).toNatClampNeg :: st) S) : J K pc L (.ref o :: st) S :=
  j_getv hK hf hd ho (fun ad => by simp [zv, zd, ho.1, hz, mv, gI]) kk
theorem zc_put {ad : Nat → Nat} {cy : Nat → ClassId} {o ci k : Nat} {x : Int32} (h : zk o = ci) (hc : ci < 12) (hz : zf ci k ≠ 1) : zc ad cy (sI S o k x) o = .inr (ci, ((List.range (zn ci)).map (zv ad S o)).set k (zv ad (sI S o k x) o k)) := by
  rw [zc_obj h hc]
  congr 2
  apply List.ext_getElem?
  intro j
  by_cases hj : j = k
  · subst hj
    by_cases hn : j < zn ci
    · rw [zfs_at hn, List.getElem?_set_self (by simpa using hn)]
    · rw [List.getElem?_eq_none (by simpa using hn), List.getElem?_eq_none (by simpa using hn)]
  · rw [List.getElem?_set_ne (fun q => hj q.symm)]
    by_cases hn : j < zn ci
    · rw [zfs_at hn, zfs_at hn]
      simp [zv, zd, sI, hj]
    · rw [List.getElem?_eq_none (by simpa using hn), List.getElem?_eq_none (by simpa using hn)]
theorem j_putv (hK : KO K cc own nL d rt) {index ci k o : Nat} {ty : FieldType} {x : Int32} {v : Value} (hf : zFL own index ci k ty false) (hd : decode cc pc = .ok (.putfield index, 3)) (ho : zO ci o) (hz : zf ci k ≠ 1) (hv : ∀ ad, zv ad (sI S o k x) o k = mv ad v) (hn : ∀ ad, narrow ty (mv ad v) = mv ad v) (hfit : ∀ ad, fits ty (mv ad v) = true) (kk : J K (pc + 3) L st (sI S o k x)) : J K pc L (v :: .ref o :: st) S := by
  obtain ⟨⟨p, l, e, R, s⟩, ⟨m, args, below, meth, c⟩, ⟨D, ad, cy⟩, ⟨Q, nc, ns⟩⟩ := K
  obtain ⟨hx, hb, hown, hml, hR, hr, hlk, hts, hKK, hinj, hzX⟩ := hK
  intro H locs ls hP hS hl'
  obtain ⟨C, T, N, ⟨hc, hN, hci, hin, ⟨ty0, hty⟩, hnm⟩, hk, hw, hty1, hfin⟩ := hf
  refine va_put (D := D) (ty := ty) hx hb hts hin ty0 hty hnm hown hKK hP (zw_D hinj cy S) hS o (by rw [zw_get ho.2, zc_obj ho.1 hci]) hc k hk (hts _ hw) (fun _ h => h) hfin hty1 (hn ad) (hfit ad) (by simp only [List.length_map, List.length_range]; rw [← hN]; exact hk) hd (fun H1 locs1 hP1 _ hS1 => kk H1 locs1 ls ?_ hS1 hl')
  rw [zw_set (S := S) (S' := sI S o k x) ho.2 (by rw [zc_put ho.1 hci hz, hv]) (fun q hq => zc_off (sI_off hq) rfl)] at hP1
  exact hP1
theorem j_putI (hK : KO K cc own nL d rt) {index ci k o : Nat} {x : Int32} (hf : zFL own index ci k .int false) (hd : decode cc pc = .ok (.putfield index, 3)) (ho : zO ci o) (hz : zf ci k = 0) (kk : J K (pc + 3) L st (sI S o k x)) : J K pc L (.int x :: .ref o :: st) S :=
  j_putv hK hf hd ho (by rw [hz]; decide) (fun ad => by simp [zv, ho.1, hz, mv, sI]) (fun ad => rfl) (fun ad => rfl) kk
theorem j_putZ (hK : KO K cc own nL d rt) {index ci k o : Nat} {x : Int32} (hf : zFL own index ci k .boolean false) (hd : decode cc pc = .ok (.putfield index, 3)) (ho : zO ci o) (hz : zf ci k = 0) (hx : x = 0 ∨ x = 1) (kk : J K (pc + 3) L st (sI S o k x)) : J K pc L (.int x :: .ref o :: st) S :=
  j_putv hK hf hd ho (by rw [hz]; decide) (fun ad => by simp [zv, ho.1, hz, mv, sI]) (fun ad => by rcases hx with rfl | rfl <;> rfl) (fun ad => by rcases hx with rfl | rfl <;> rfl) kk
theorem j_putD (hK : KO K cc own nL d rt) {index ci k o r : Nat} {c : String} (hf : zFL own index ci k (.object c) false) (hd : decode cc pc = .ok (.putfield index, 3)) (ho : zO ci o) (hz : zf ci k = 2) (hr : r < 1000) (kk : J K (pc + 3) L st (sI S o k (nI r))) : J K pc L (.ref r :: .ref o :: st) S :=
  j_putv hK hf hd ho (by rw [hz]; decide) (fun ad => by simp [zv, zd, ho.1, hz, mv, sI, nI_clamp (show r < 2 ^ 31 by omega)]) (fun ad => rfl) (fun ad => rfl) kk
theorem j_iald (hK : KO K cc own nL d rt) {o n : Nat} {i : Int32} (hd : decode cc pc = .ok (.iaload, 1)) (ho : zB 12 n o) (hin : vp_in i n) (kk : J K (pc + 1) L (.int (gI S o i.toNatClampNeg) :: st) S) : J K pc L (.int i :: .ref o :: st) S := by
  obtain ⟨⟨p, l, e, R, s⟩, ⟨m, args, below, meth, c⟩, ⟨D, ad, cy⟩, ⟨Q, nc, ns⟩⟩ := K
  obtain ⟨hx, hb, hown, hml, hR, hr, hlk, hts, hKK, hinj, hzX⟩ := hK
  intro H locs ls hP hS hl'
  exact va_iald (D := D) hx hb hKK hP o 0 (f := S.1 o) (by rw [zw_get ho.2.1, zc_int ho.1 (by decide), ho.2.2]) rfl hin hd (kk H locs ls hP hS hl')
theorem j_cald (hK : KO K cc own nL d rt) {o n : Nat} {i : Int32} (hd : decode cc pc = .ok (.caload, 1)) (ho : zB 13 n o) (hin : vp_in i n) (kk : J K (pc + 1) L (.int (gI S o i.toNatClampNeg) :: st) S) : J K pc L (.int i :: .ref o :: st) S := by
  obtain ⟨⟨p, l, e, R, s⟩, ⟨m, args, below, meth, c⟩, ⟨D, ad, cy⟩, ⟨Q, nc, ns⟩⟩ := K
  obtain ⟨hx, hb, hown, hml, hR, hr, hlk, hts, hKK, hinj, hzX⟩ := hK
  intro H locs ls hP hS hl'
  exact va_cald (D := D) hx hb hKK hP o 1 (f := S.1 o) (by rw [zw_get ho.2.1, zc_int ho.1 (by decide), ho.2.2]) rfl hin hd (kk H locs ls hP hS hl')
theorem j_zald (hK : KO K cc own nL d rt) {o n : Nat} {i : Int32} (hd : decode cc pc = .ok (.baload, 1)) (ho : zB 15 n o) (hin : vp_in i n) (kk : J K (pc + 1) L (.int (gI S o i.toNatClampNeg) :: st) S) : J K pc L (.int i :: .ref o :: st) S := by
  obtain ⟨⟨p, l, e, R, s⟩, ⟨m, args, below, meth, c⟩, ⟨D, ad, cy⟩, ⟨Q, nc, ns⟩⟩ := K
  obtain ⟨hx, hb, hown, hml, hR, hr, hlk, hts, hKK, hinj, hzX⟩ := hK
  intro H locs ls hP hS hl'
  exact va_zald (D := D) hx hb hKK hP o 3 (f := S.1 o) (by rw [zw_get ho.2.1, zc_int ho.1 (by decide), ho.2.2]) rfl hin hd (kk H locs ls hP hS hl')
theorem j_lald (hK : KO K cc own nL d rt) {o n : Nat} {i : Int32} (hd : decode cc pc = .ok (.laload, 1)) (ho : zB 14 n o) (hin : vp_in i n) (kk : J K (pc + 1) L (.long (gL S o i.toNatClampNeg) :: st) S) : J K pc L (.int i :: .ref o :: st) S := by
  obtain ⟨⟨p, l, e, R, s⟩, ⟨m, args, below, meth, c⟩, ⟨D, ad, cy⟩, ⟨Q, nc, ns⟩⟩ := K
  obtain ⟨hx, hb, hown, hml, hR, hr, hlk, hts, hKK, hinj, hzX⟩ := hK
  intro H locs ls hP hS hl'
  exact va_lald (D := D) hx hb hKK hP o 2 (f := S.2 o) (by rw [zw_get ho.2.1, zc_long ho.1, ho.2.2]) rfl hin hd (kk H locs ls hP hS hl')
theorem j_aald (hK : KO K cc own nL d rt) {o n : Nat} {i : Int32} (hd : decode cc pc = .ok (.aaload, 1)) (ho : zB 16 n o) (hin : vp_in i n) (kk : J K (pc + 1) L (.ref (zr o i.toNatClampNeg) :: st) S) : J K pc L (.int i :: .ref o :: st) S := by
  obtain ⟨⟨p, l, e, R, s⟩, ⟨m, args, below, meth, c⟩, ⟨D, ad, cy⟩, ⟨Q, nc, ns⟩⟩ := K
  obtain ⟨hx, hb, hown, hml, hR, hr, hlk, hts, hKK, hinj, hzX⟩ := hK
  intro H locs ls hP hS hl'
  exact va_aldq (D := D) hx hb hKK hP o 4 (f := fun j => some (ad (zr o j))) (by rw [zw_get ho.2.1, zc_refs ho.1, ho.2.2]) rfl hin hd (kk H locs ls hP hS hl')
theorem j_iast (hK : KO K cc own nL d rt) {o n : Nat} {i x : Int32} (hd : decode cc pc = .ok (.iastore, 1)) (ho : zB 12 n o) (hin : vp_in i n) (kk : J K (pc + 1) L st (sI S o i.toNatClampNeg x)) : J K pc L (.int x :: .int i :: .ref o :: st) S := by
  obtain ⟨⟨p, l, e, R, s⟩, ⟨m, args, below, meth, c⟩, ⟨D, ad, cy⟩, ⟨Q, nc, ns⟩⟩ := K
  obtain ⟨hx, hb, hown, hml, hR, hr, hlk, hts, hKK, hinj, hzX⟩ := hK
  intro H locs ls hP hS hl'
  refine va_iast (D := D) hx hb hKK hP (zw_D hinj cy S) hS o 0 (by rw [zw_get ho.2.1, zc_int ho.1 (by decide), ho.2.2]) rfl hin hd (fun H1 locs1 hP1 _ hS1 => kk H1 locs1 ls ?_ hS1 hl')
  rw [zw_set (S := S) (S' := sI S o i.toNatClampNeg x) ho.2.1 (by rw [zc_int ho.1 (by decide), ho.2.2, sI_on]) (fun q hq => zc_off (sI_off hq) rfl)] at hP1
  exact hP1
theorem j_cast (hK : KO K cc own nL d rt) {o n : Nat} {i x : Int32} (hd : decode cc pc = .ok (.castore, 1)) (ho : zB 13 n o) (hin : vp_in i n) (kk : J K (pc + 1) L st (sI S o i.toNatClampNeg (vp_nar .char x))) : J K pc L (.int x :: .int i :: .ref o :: st) S := by
  obtain ⟨⟨p, l, e, R, s⟩, ⟨m, args, below, meth, c⟩, ⟨D, ad, cy⟩, ⟨Q, nc, ns⟩⟩ := K
  obtain ⟨hx, hb, hown, hml, hR, hr, hlk, hts, hKK, hinj, hzX⟩ := hK
  intro H locs ls hP hS hl'
  refine va_cast (D := D) hx hb hKK hP (zw_D hinj cy S) hS o 1 (by rw [zw_get ho.2.1, zc_int ho.1 (by decide), ho.2.2]) rfl hin hd (fun H1 locs1 hP1 _ hS1 => kk H1 locs1 ls ?_ hS1 hl')
  rw [zw_set (S := S) (S' := sI S o i.toNatClampNeg (vp_nar .char x)) ho.2.1 (by rw [zc_int ho.1 (by decide), ho.2.2, sI_on]) (fun q hq => zc_off (sI_off hq) rfl)] at hP1
  exact hP1
theorem j_zast (hK : KO K cc own nL d rt) {o n : Nat} {i x : Int32} (hd : decode cc pc = .ok (.bastore, 1)) (ho : zB 15 n o) (hin : vp_in i n) (kk : J K (pc + 1) L st (sI S o i.toNatClampNeg (vp_nar .boolean x))) : J K pc L (.int x :: .int i :: .ref o :: st) S := by
  obtain ⟨⟨p, l, e, R, s⟩, ⟨m, args, below, meth, c⟩, ⟨D, ad, cy⟩, ⟨Q, nc, ns⟩⟩ := K
  obtain ⟨hx, hb, hown, hml, hR, hr, hlk, hts, hKK, hinj, hzX⟩ := hK
  intro H locs ls hP hS hl'
  refine va_zast (D := D) hx hb hKK hP (zw_D hinj cy S) hS o 3 (by rw [zw_get ho.2.1, zc_int ho.1 (by decide), ho.2.2]) rfl hin hd (fun H1 locs1 hP1 _ hS1 => kk H1 locs1 ls ?_ hS1 hl')
  rw [zw_set (S := S) (S' := sI S o i.toNatClampNeg (vp_nar .boolean x)) ho.2.1 (by rw [zc_int ho.1 (by decide), ho.2.2, sI_on]) (fun q hq => zc_off (sI_off hq) rfl)] at hP1
  exact hP1
theorem j_last (hK : KO K cc own nL d rt) {o n : Nat} {i : Int32} {x : Int64} (hd : decode cc pc = .ok (.lastore, 1)) (ho : zB 14 n o) (hin : vp_in i n) (kk : J K (pc + 1) L st (sL S o i.toNatClampNeg x)) : J K pc L (.long x :: .int i :: .ref o :: st) S := by
  obtain ⟨⟨p, l, e, R, s⟩, ⟨m, args, below, meth, c⟩, ⟨D, ad, cy⟩, ⟨Q, nc, ns⟩⟩ := K
  obtain ⟨hx, hb, hown, hml, hR, hr, hlk, hts, hKK, hinj, hzX⟩ := hK
  intro H locs ls hP hS hl'
  refine va_last (D := D) hx hb hKK hP (zw_D hinj cy S) hS o 2 (f := S.2 o) (by rw [zw_get ho.2.1, zc_long ho.1, ho.2.2]) rfl hin hd (fun H1 locs1 hP1 _ hS1 => kk H1 locs1 ls ?_ hS1 hl')
  rw [zw_set (S := S) (S' := sL S o i.toNatClampNeg x) ho.2.1 (by rw [zc_long ho.1, ho.2.2, sL_on]) (fun q hq => zc_off rfl (sL_off hq))] at hP1
  exact hP1
theorem j_alen (hK : KO K cc own nL d rt) {o ki n : Nat} {v : Int32} (hd : decode cc pc = .ok (.arraylength, 1)) (ho : zB 12 n o) (hv : Int32.ofNat n = v) (kk : J K (pc + 1) L (.int v :: st) S) : J K pc L (.ref o :: st) S := by
  obtain ⟨⟨p, l, e, R, s⟩, ⟨m, args, below, meth, c⟩, ⟨D, ad, cy⟩, ⟨Q, nc, ns⟩⟩ := K
  obtain ⟨hx, hb, hown, hml, hR, hr, hlk, hts, hKK, hinj, hzX⟩ := hK
  intro H locs ls hP hS hl'
  exact va_alen (D := D) hx hb hKK hP o 0 (x := (n, .inl (S.1 o))) (by rw [zw_get ho.2.1, zc_int ho.1 (by decide), ho.2.2]) rfl hv hd (kk H locs ls hP hS hl')
theorem j_iret (hK : KO K cc own nL d rt) {v : Int32} (hd : decode cc pc = .ok (.ireturn, 1)) (hq : rt = some .int) (ha : zans K (some (.int v), S)) : J K pc L [.int v] S := by
  obtain ⟨⟨p, l, e, R, s⟩, ⟨m, args, below, meth, c⟩, ⟨D, ad, cy⟩, ⟨Q, nc, ns⟩⟩ := K
  obtain ⟨hx, hb, hown, hml, hR, hr, hlk, hts, hKK, hinj, hzX⟩ := hK
  intro H locs ls hP hS hl'
  obtain ⟨rfl, rfl, rfl⟩ := ha
  exact W.iret hx hb (hr.trans hq) (fun t ht hW => ⟨rfl, by rw [ht]; exact hP, hS.F ht⟩) hS.2.2 hd hlk
theorem j_zret (hK : KO K cc own nL d rt) {v : Int32} {ty : FieldType} (hd : decode cc pc = .ok (.ireturn, 1)) (hq : rt = some ty) (hn : narrow ty (.int v) = .int v) (ha : zans K (some (.int v), S)) : J K pc L [.int v] S := by
  obtain ⟨⟨p, l, e, R, s⟩, ⟨m, args, below, meth, c⟩, ⟨D, ad, cy⟩, ⟨Q, nc, ns⟩⟩ := K
  obtain ⟨hx, hb, hown, hml, hR, hr, hlk, hts, hKK, hinj, hzX⟩ := hK
  intro H locs ls hP hS hl'
  obtain ⟨rfl, rfl, rfl⟩ := ha
  exact W.zret hx hb (hr.trans hq) hn (fun t ht hW => ⟨rfl, by rw [ht]; exact hP, hS.F ht⟩) hS.2.2 hd hlk
theorem j_lret (hK : KO K cc own nL d rt) {v : Int64} (hd : decode cc pc = .ok (.lreturn, 1)) (hq : rt = some .long) (ha : zans K (some (.long v), S)) : J K pc L [.long v] S := by
  obtain ⟨⟨p, l, e, R, s⟩, ⟨m, args, below, meth, c⟩, ⟨D, ad, cy⟩, ⟨Q, nc, ns⟩⟩ := K
  obtain ⟨hx, hb, hown, hml, hR, hr, hlk, hts, hKK, hinj, hzX⟩ := hK
  intro H locs ls hP hS hl'
  obtain ⟨rfl, rfl, rfl⟩ := ha
  exact W.lret hx hb (hr.trans hq) (fun t ht hW => ⟨rfl, by rw [ht]; exact hP, hS.F ht⟩) hS.2.2 hd hlk
theorem j_vret (hK : KO K cc own nL d rt) (hd : decode cc pc = .ok (.return_, 1)) (hq : rt = none) (ha : zans K (none, S)) : J K pc L [] S := by
  obtain ⟨⟨p, l, e, R, s⟩, ⟨m, args, below, meth, c⟩, ⟨D, ad, cy⟩, ⟨Q, nc, ns⟩⟩ := K
  obtain ⟨hx, hb, hown, hml, hR, hr, hlk, hts, hKK, hinj, hzX⟩ := hK
  intro H locs ls hP hS hl'
  obtain ⟨rfl, rfl, rfl⟩ := ha
  exact W.vret hx hb (hr.trans hq) (fun t ht hW => ⟨rfl, by rw [ht]; exact hP, hS.F ht⟩) hS.2.2 hd hlk
theorem j_aret (hK : KO K cc own nL d rt) {v : Nat} {C : String} (hd : decode cc pc = .ok (.areturn, 1)) (hq : rt = some (.object C)) (ha : zans K (some (.ref v), S)) : J K pc L [.ref v] S := by
  obtain ⟨⟨p, l, e, R, s⟩, ⟨m, args, below, meth, c⟩, ⟨D, ad, cy⟩, ⟨Q, nc, ns⟩⟩ := K
  obtain ⟨hx, hb, hown, hml, hR, hr, hlk, hts, hKK, hinj, hzX⟩ := hK
  intro H locs ls hP hS hl'
  obtain ⟨rfl, rfl, rfl⟩ := ha
  exact W.aret hx hb (hr.trans hq) (Or.inl ⟨C, rfl⟩) (Or.inr ⟨_, rfl⟩) (fun t ht hW => ⟨rfl, by rw [ht]; exact hP, hS.F ht⟩) hS.2.2 hd hlk
def mnI (x y : Int32) : Int32 := if y < x then y else x
def mxI (x y : Int32) : Int32 := if x < y then y else x
theorem zcat (ad : Nat → Nat) (st : List Value) : ((st.map (mv ad)).map fun v => v.category).sum = (st.map fun v => v.category).sum := by
  rw [List.map_map]
  have e2 : ((fun v : Value => v.category) ∘ mv ad) = fun v => v.category := by funext v; exact mv_cat ad v
  rw [e2]
theorem j_min (hK : KO K cc own nL d rt) {index : Nat} {x y : Int32} (w1 : Cond.methodLink own index Lib.Math.min.name ∈ zT) (hd : decode cc pc = .ok (.invokestatic index, 3)) (hdd : 0 < d) (hw : (st.map fun v => v.category).sum ≤ 8) (kk : J K (pc + 3) L (.int (mnI x y) :: st) S) : J K pc L (.int y :: .int x :: st) S := by
  obtain ⟨⟨p, l, e, R, s⟩, ⟨m, args, below, meth, c⟩, ⟨D, ad, cy⟩, ⟨Q, nc, ns⟩⟩ := K
  obtain ⟨hx, hb, hown, hml, hR, hr, hlk, hts, hKK, hinj, hzX⟩ := hK
  intro H locs ls hP hS hl'
  exact va_mmin hx hb hl'.1.symm hown (hts _ w1) (hts _ zmin_s) (hts _ in_J9) (hts _ zmin_c) (Nat.le_trans hdd hR.1) (by rw [zcat]; omega) hR.2.2.1 hR.2.2.2 hd (kk H locs ls hP hS hl')
theorem j_max (hK : KO K cc own nL d rt) {index : Nat} {x y : Int32} (w1 : Cond.methodLink own index Lib.Math.max.name ∈ zT) (hd : decode cc pc = .ok (.invokestatic index, 3)) (hdd : 0 < d) (hw : (st.map fun v => v.category).sum ≤ 8) (kk : J K (pc + 3) L (.int (mxI x y) :: st) S) : J K pc L (.int y :: .int x :: st) S := by
  obtain ⟨⟨p, l, e, R, s⟩, ⟨m, args, below, meth, c⟩, ⟨D, ad, cy⟩, ⟨Q, nc, ns⟩⟩ := K
  obtain ⟨hx, hb, hown, hml, hR, hr, hlk, hts, hKK, hinj, hzX⟩ := hK
  intro H locs ls hP hS hl'
  exact va_mmax hx hb hl'.1.symm hown (hts _ w1) (hts _ zmax_s) (hts _ in_J9) (hts _ zmax_c) (Nat.le_trans hdd hR.1) (by rw [zcat]; omega) hR.2.2.1 hR.2.2.2 hd (kk H locs ls hP hS hl')
theorem j_copyI (hK : KO K cc own nL d rt) {index o1 o2 n1 n2 : Nat} {sp dp n : Int32} (w1 : Cond.methodLink own index arraycopyName ∈ zT) (hd : decode cc pc = .ok (.invokestatic index, 3)) (h1 : zB 12 n1 o1) (h2 : zB 12 n2 o2) (c1 : ¬ sp < 0) (c2 : ¬ dp < 0) (c3 : ¬ n < 0) (c4 : sp.toNatClampNeg + n.toNatClampNeg ≤ n1) (c5 : dp.toNatClampNeg + n.toNatClampNeg ≤ n2) (hdd : 0 < d) (hw : (st.map fun v => v.category).sum ≤ 8)
    (kk : J K (pc + 3) L st (sC S o1 sp.toNatClampNeg o2 dp.toNatClampNeg n.toNatClampNeg)) : J K pc L (.int n :: .int dp :: .ref o2 :: .int sp :: .ref o1 :: st) S := by
  obtain ⟨⟨p, l, e, R, s⟩, ⟨m, args, below, meth, c⟩, ⟨D, ad, cy⟩, ⟨Q, nc, ns⟩⟩ := K
  obtain ⟨hx, hb, hown, hml, hR, hr, hlk, hts, hKK, hinj, hzX⟩ := hK
  intro H locs ls hP hS hl'
  refine va_copyi (D := D) (ty := .int) hx hb hl'.1.symm hown (hts _ w1) (hts _ zcpy_n) (hts _ zcpy_s) (hts _ zcpy_i) hKK hP (zw_D hinj cy S) hS o1 o2 0 0 (f := S.1 o1) (g := S.1 o2) (by rw [zw_get h1.2.1, zc_int h1.1 (by decide), h1.2.2]) (by rw [zw_get h2.2.1, zc_int h2.1 (by decide), h2.2.2]) rfl rfl rfl c1 c2 c3 c4 c5 (fun i hi => rfl) (Nat.le_trans hdd hR.1) (by rw [zcat]; show _ + (5 + 2 + 11) ≤ R.locals; omega) hd (fun H1 locs1 hP1 _ hS1 => kk H1 locs1 ls ?_ hS1 hl')
  rw [zw_set (S := S) (S' := sC S o1 sp.toNatClampNeg o2 dp.toNatClampNeg n.toNatClampNeg) h2.2.1 (by rw [zc_int h2.1 (by decide), h2.2.2]; simp [sC]) (fun q hq => zc_off (by funext b; simp [sC, hq]) rfl)] at hP1
  exact hP1
theorem j_copyL (hK : KO K cc own nL d rt) {index o1 o2 n1 n2 : Nat} {sp dp n : Int32} (w1 : Cond.methodLink own index arraycopyName ∈ zT) (hd : decode cc pc = .ok (.invokestatic index, 3)) (h1 : zB 14 n1 o1) (h2 : zB 14 n2 o2) (c1 : ¬ sp < 0) (c2 : ¬ dp < 0) (c3 : ¬ n < 0) (c4 : sp.toNatClampNeg + n.toNatClampNeg ≤ n1) (c5 : dp.toNatClampNeg + n.toNatClampNeg ≤ n2) (hdd : 0 < d) (hw : (st.map fun v => v.category).sum ≤ 8)
    (kk : J K (pc + 3) L st (sM S o1 sp.toNatClampNeg o2 dp.toNatClampNeg n.toNatClampNeg)) : J K pc L (.int n :: .int dp :: .ref o2 :: .int sp :: .ref o1 :: st) S := by
  obtain ⟨⟨p, l, e, R, s⟩, ⟨m, args, below, meth, c⟩, ⟨D, ad, cy⟩, ⟨Q, nc, ns⟩⟩ := K
  obtain ⟨hx, hb, hown, hml, hR, hr, hlk, hts, hKK, hinj, hzX⟩ := hK
  intro H locs ls hP hS hl'
  refine va_copyl (D := D) (ty := .long) hx hb hl'.1.symm hown (hts _ w1) (hts _ zcpy_n) (hts _ zcpy_s) (hts _ zcpy_i) hKK hP (zw_D hinj cy S) hS o1 o2 2 2 (f := S.2 o1) (g := S.2 o2) (by rw [zw_get h1.2.1, zc_long h1.1, h1.2.2]) (by rw [zw_get h2.2.1, zc_long h2.1, h2.2.2]) rfl rfl rfl c1 c2 c3 c4 c5 (fun i hi => rfl) (Nat.le_trans hdd hR.1) (by rw [zcat]; show _ + (5 + 2 + 11) ≤ R.locals; omega) hd (fun H1 locs1 hP1 _ hS1 => kk H1 locs1 ls ?_ hS1 hl')
  rw [zw_set (S := S) (S' := sM S o1 sp.toNatClampNeg o2 dp.toNatClampNeg n.toNatClampNeg) h2.2.1 (by rw [zc_long h2.1, h2.2.2]; simp [sM]) (fun q hq => zc_off rfl (by funext b; simp [sM, hq]))] at hP1
  exact hP1
theorem j_pc {pc' : Nat} (h : pc = pc') (k : J K pc' L st S) : J K pc L st S := h ▸ k
theorem j_tabC (hK : KO K cc own nL d rt) {dflt lo hi : Int} {offs : Array Int} {len : Nat} {x : Int32} {off : Int} (v : Int32) (tgt : Nat) (hd : decode cc pc = .ok (.tableswitch dflt lo hi offs, len)) (hv : x = v) (h1 : (decide (v.toInt < lo) || decide (hi < v.toInt)) = false) (ho : offs[(v.toInt - lo).toNat]? = some off) (ht : (pc : Int) + off = (tgt : Int)) (kk : J K tgt L st S) : J K pc L (.int x :: st) S := by
  subst hv
  simp only [Bool.or_eq_false_iff, decide_eq_false_iff_not] at h1
  exact j_tabIn hK tgt hd h1.1 h1.2 ho ht kk
theorem ne_toInt {x v : Int32} (n : Int) (hv : v.toInt = n) (h : ¬ x = v) : ¬ x.toInt = n := fun e => h (Int32.toInt_inj.mp (e.trans hv.symm))
theorem j_lookC (hK : KO K cc own nL d rt) {dflt : Int} {ps : Array (Int × Int)} {len : Nat} {x : Int32} {off : Int} (v : Int32) (tgt : Nat) (hd : decode cc pc = .ok (.lookupswitch dflt ps, len)) (hv : x = v) (hp : (ps.toList.zip (ps.toList.drop 1)).all (fun (a, next) => a.1 < next.1) = true) (ho : Op.lookupswitch.offset ps.toList dflt v.toInt = off) (ht : (pc : Int) + off = (tgt : Int)) (kk : J K tgt L st S) : J K pc L (.int x :: st) S := by
  subst hv
  exact j_lookup hK tgt hd hp ho ht kk
/-! Strings: number 1000 + i is the i-th constant, 1010 + i its bytes -/
def yL (i : Nat) : Nat := zSl.getD i 0
def yB (i k : Nat) : Int32 := (zSb.getD i []).getD k 0
theorem j_gsZ (hK : KO K cc own nL d rt) {index : Nat} (hw : Cond.fieldLink own index "java/lang/String" "COMPACT_STRINGS" "Z" ∈ zT) (hd : decode cc pc = .ok (.getstatic index, 3)) (kk : J K (pc + 3) L (.int 1 :: st) S) : J K pc L st S := by
  obtain ⟨⟨p, l, e, R, s⟩, ⟨m, args, below, meth, c⟩, ⟨D, ad, cy⟩, ⟨Q, nc, ns⟩⟩ := K
  obtain ⟨hx, hb, hown, hml, hR, hr, hlk, hts, hKK, hinj, hzX⟩ := hK
  intro H locs ls hP hS hl'
  exact va_gets hx hb hzX.1.2.2.1 hS hown (hts _ hw) (fun _ h => h) hd (kk H locs ls hP hS hl')
theorem j_gsF (hK : KO K cc own nL d rt) {index : Nat} (hw : Cond.fieldLink own index "jdk/internal/util/Preconditions" "SIOOBE_FORMATTER" "Ljava/util/function/BiFunction;" ∈ zT) (hd : decode cc pc = .ok (.getstatic index, 3)) (kk : ∀ v : Value, v = .null ∨ v = .ref 1020 → J K (pc + 3) L (v :: st) S) : J K pc L st S := by
  obtain ⟨⟨p, l, e, R, s⟩, ⟨m, args, below, meth, c⟩, ⟨D, ad, cy⟩, ⟨Q, nc, ns⟩⟩ := K
  obtain ⟨hx, hb, hown, hml, hR, hr, hlk, hts, hKK, hinj, hzX⟩ := hK
  intro H locs ls hP hS hl'
  rcases hzX.1.2.2.2.1 with hZ | hZ
  · exact va_gets hx hb hZ hS hown (hts _ hw) (fun _ h => h) hd (kk .null (Or.inl rfl) H locs ls hP hS hl')
  · exact va_gets hx hb hZ hS hown (hts _ hw) (fun _ h => h) hd (kk (.ref 1020) (Or.inr rfl) H locs ls hP hS hl')
theorem j_gfV (hK : KO K cc own nL d rt) {index i : Nat} (hi : i < 5) (hw : Cond.fieldLink own index "java/lang/String" "value" "[B" ∈ zT) (hd : decode cc pc = .ok (.getfield index, 3)) (kk : J K (pc + 3) L (.ref (1010 + i) :: st) S) : J K pc L (.ref (1000 + i) :: st) S := by
  obtain ⟨⟨p, l, e, R, s⟩, ⟨m, args, below, meth, c⟩, ⟨D, ad, cy⟩, ⟨Q, nc, ns⟩⟩ := K
  obtain ⟨hx, hb, hown, hml, hR, hr, hlk, hts, hKK, hinj, hzX⟩ := hK
  intro H locs ls hP hS hl'
  exact vk_getf hx hb (hzX.1.2.2.2.2.1.1 i hi).2.2.1 hS hown (hts _ hw) (fun _ h => h) hd (kk H locs ls hP hS hl')
theorem j_gfC (hK : KO K cc own nL d rt) {index i : Nat} (hi : i < 5) (hw : Cond.fieldLink own index "java/lang/String" "coder" "B" ∈ zT) (hd : decode cc pc = .ok (.getfield index, 3)) (kk : J K (pc + 3) L (.int 0 :: st) S) : J K pc L (.ref (1000 + i) :: st) S := by
  obtain ⟨⟨p, l, e, R, s⟩, ⟨m, args, below, meth, c⟩, ⟨D, ad, cy⟩, ⟨Q, nc, ns⟩⟩ := K
  obtain ⟨hx, hb, hown, hml, hR, hr, hlk, hts, hKK, hinj, hzX⟩ := hK
  intro H locs ls hP hS hl'
  exact vk_getf hx hb (hzX.1.2.2.2.2.1.1 i hi).2.1 hS hown (hts _ hw) (fun _ h => h) hd (kk H locs ls hP hS hl')
theorem j_ylen (hK : KO K cc own nL d rt) {i : Nat} (hi : i < 5) (hd : decode cc pc = .ok (.arraylength, 1)) (kk : J K (pc + 1) L (.int (nI (yL i)) :: st) S) : J K pc L (.ref (1010 + i) :: st) S := by
  obtain ⟨⟨p, l, e, R, s⟩, ⟨m, args, below, meth, c⟩, ⟨D, ad, cy⟩, ⟨Q, nc, ns⟩⟩ := K
  obtain ⟨hx, hb, hown, hml, hR, hr, hlk, hts, hKK, hinj, hzX⟩ := hK
  intro H locs ls hP hS hl'
  exact va_tlen hx hb (hzX.1.2.2.2.2.1.1 i hi).2.2.2 hS rfl hd (kk H locs ls hP hS hl')
theorem j_yald (hK : KO K cc own nL d rt) {i : Nat} {x : Int32} (hi : i < 5) (hd : decode cc pc = .ok (.baload, 1)) (hin : vp_in x (yL i)) (kk : J K (pc + 1) L (.int (yB i x.toNatClampNeg) :: st) S) : J K pc L (.int x :: .ref (1010 + i) :: st) S := by
  obtain ⟨⟨p, l, e, R, s⟩, ⟨m, args, below, meth, c⟩, ⟨D, ad, cy⟩, ⟨Q, nc, ns⟩⟩ := K
  obtain ⟨hx, hb, hown, hml, hR, hr, hlk, hts, hKK, hinj, hzX⟩ := hK
  intro H locs ls hP hS hl'
  exact va_tb hx hb (hzX.1.2.2.2.2.1.1 i hi).2.2.2 hS hin rfl hd (kk H locs ls hP hS hl')
theorem j_ldcS (hK : KO K cc own nL d rt) {index i : Nat} {tx : String} (hw : ∀ (ad : Nat → Nat) (U : State) (H : Heap), zX ad U H → vk_R own index tx (ad (1000 + i)) U) (hd : decode cc pc = .ok (.ldc index, 2)) (kk : J K (pc + 2) L (.ref (1000 + i) :: st) S) : J K pc L st S := by
  obtain ⟨⟨p, l, e, R, s⟩, ⟨m, args, below, meth, c⟩, ⟨D, ad, cy⟩, ⟨Q, nc, ns⟩⟩ := K
  obtain ⟨hx, hb, hown, hml, hR, hr, hlk, hts, hKK, hinj, hzX⟩ := hK
  intro H locs ls hP hS hl'
  exact va_ldcS hx hb hown (hw ad s s.heap hzX) hd (kk H locs ls hP hS hl')
theorem j_ldcwS (hK : KO K cc own nL d rt) {index i : Nat} {tx : String} (hw : ∀ (ad : Nat → Nat) (U : State) (H : Heap), zX ad U H → vk_R own index tx (ad (1000 + i)) U) (hd : decode cc pc = .ok (.ldc_w index, 3)) (kk : J K (pc + 3) L (.ref (1000 + i) :: st) S) : J K pc L st S := by
  obtain ⟨⟨p, l, e, R, s⟩, ⟨m, args, below, meth, c⟩, ⟨D, ad, cy⟩, ⟨Q, nc, ns⟩⟩ := K
  obtain ⟨hx, hb, hown, hml, hR, hr, hlk, hts, hKK, hinj, hzX⟩ := hK
  intro H locs ls hP hS hl'
  intro T hT X
  have hZ := hw ad s s.heap hzX
  obtain ⟨t, a1, b1⟩ := kk H locs ls hP hS hl' T hT X
  exact ⟨t, X.ldcStringW hx hown (text := tx) (a := ad (1000 + i)) hZ.1 hZ.2 (g := F0 m pc ls (st.map (mv ad))) rfl (by rw [hb]; exact hd) t a1, b1⟩
end JR
/-- a method's contract: from the state S, at the arguments av, it answers rv and leaves Sv -/
def zM (y : MethodName) (code : ByteArray) (nL d : Nat) (rt : Option FieldType) (av : List Value) (S : St) (rv : Option Value) (Sv : St) : Prop :=
  ∀ (l : Launch) (D : va_G) (ad : Nat → Nat) (cy : Nat → ClassId), zinj ad → Met l y (.code y code nL rt :: zT) (zrm d) (va_Pc (av.map (mv ad)) (fun U => va_P D vwCl (zw ad cy S) U.heap ∧ va_K D vwCl (zty cy) U ∧ zX ad U U.heap)) (zQ D ad cy rv Sv) 0 0 (zA ad)
theorem lv_args_map (ad : Nat → Nat) : ∀ (av : List Value) (i : Nat), lv_args i (av.map (mv ad)) = (lv_args i av).map (mL ad)
  | [], _ => rfl
  | v :: vs, i => by
    show (i, mv ad v) :: lv_args (if (mv ad v).category = 2 then i + 2 else i + 1) (vs.map (mv ad)) = _
    rw [mv_cat, lv_args_map ad vs]
    rfl
theorem lg_sl_map (ad : Nat → Nat) (av : List Value) : (lg_sl (av.map (mv ad))).length = (lg_sl av).length := by
  induction av with
  | nil => rfl
  | cons v vs ih =>
    simp only [lg_sl, List.map_cons, List.flatMap_cons, List.length_append] at ih ⊢
    rw [ih, mv_cat]
    split <;> rfl
theorem Met.ofWF {l : Launch} {y : MethodName} {ws ws' : List Cond} {rm : Room} {Pc : Array Value → State → Prop} {Qc : Array Value → State → Outcome → State → Prop} {mc ms : Nat} {free : Addr → Prop} {cc : ByteArray} {maxL : Nat} {ret : Option FieldType}
    (hy : plainFor y = true) (hw : ws = Cond.code y cc maxL ret :: ws')
    (body : ∀ p e s m args below meth c s₁, BodyLoose p l y (headSpec ws rm) cc maxL ret e s m args below meth c s₁ → c.maxLocals = maxL → Pc args s →
      W p l e (headSpec ws rm).room s m args below meth c s.heap [] 0 0 (MQ below Qc args s mc ms free) (entryFrame m args maxL)) : Met l y ws rm Pc Qc mc ms free := by
  refine MetFree.of_bodySF (code := cc) (maxLocals := maxL) (ret := ret) hy ?_ ?_
  · intro args s m h hn
    obtain ⟨meth, c, h1, h2, h3, h4, h5, h6, -, -⟩ := Cond.code_spec hn (atoms_spec (ws := ws) h _ (by rw [hw]; exact List.mem_cons_self))
    exact ⟨meth, c, h1, h2, h3, h4, h5, h6⟩
  · intro p e s m args below meth c s₁ B hml hP _
    have hh0 : s₁.heap = s.heap := by rw [B.state]; rfl
    obtain ⟨t, a1, o, b1, b2, b3⟩ := body p e s m args below meth c s₁ B hml hP s₁ hh0 (Stand.of_body B)
    exact ⟨t, o, a1, b1, b2, ⟨b3.1, b3.2⟩⟩
theorem zpl {y : MethodName} (h : plainName y.cls = true) : plainFor y = true := by unfold plainFor; rw [h]; rfl
theorem zM_of {y : MethodName} {code : ByteArray} {nL d : Nat} {rt : Option FieldType} {av : List Value} {S : St} {rv : Option Value} {Sv : St} {L : List (Nat × Value)} (hy : plainFor y = true) (hlen : (lg_sl av).length ≤ nL) (hL : lv_args 0 av = L)
    (body : ∀ K, KO K code y.cls nL d rt → zans K (rv, Sv) → J K 0 L [] S) : zM y code nL d rt av S rv Sv := by
  intro l D ad cy hinj
  refine Met.ofWF (cc := code) (maxL := nL) (ret := rt) hy rfl ?_
  intro p e s m args below meth c s₁ B hml hv
  obtain ⟨rfl, hP, hKK, hzX⟩ := hv
  have hts := atoms_spec (ws := .code y code nL rt :: zT) B.pre
  have hown : s.vm.findClass y.cls = some m.cls := findClass_of_methodNamed B.named
  have k := body ((p, l, e, zrm d, s), (m, (av.map (mv ad)).toArray, below, meth, c), (D, ad, cy), (MQ below (zQ D ad cy rv Sv) (av.map (mv ad)).toArray s 0 0 (zA ad), 0, 0)) ⟨B.exec, B.bytes, hown, hml, ⟨Nat.le_refl _, Nat.le_refl _, Nat.le_refl _, Nat.le_refl _⟩, B.returns, B.notSynchronized, fun w hw => hts w (List.mem_cons_of_mem _ hw), hKK, hinj, hzX⟩ ⟨rfl, rfl, rfl⟩
  rw [lg_entry_eq]
  have hl := lv_entry (av.map (mv ad)) (n := nL) (by rw [lg_sl_map]; exact hlen)
  rw [lv_args_map, hL, ← hml] at hl
  have k2 := k s.heap [] _ hP va_S.rf hl
  rw [hml] at k2
  exact k2
theorem zG {y : MethodName} {code : ByteArray} {nL : Nat} {rt : Option FieldType} (h : Cond.code y code nL rt ∈ zT) : GoodIn zT (.code y code nL rt :: zT) := fun w hw => by
  rcases List.mem_cons.mp hw with rfl | hw
  · exact zT_good _ h
  · exact zT_good _ hw
section JC
variable {K : CT} {cc : ByteArray} {own : String} {nL d pc : Nat} {rt : Option FieldType} {L L' : List (Nat × Value)} {st st0 : List Value} {S : St}
/-- a call of a method on an object of the world -/
theorem j_callV (hK : KO K cc own nL d rt) {index : Nat} {y : MethodName} {code' : ByteArray} {nL' d' ci o : Nat} {rt' : Option FieldType} {As : List Value} {ra : Option Value} {Sa : St} {T : u_T} {N : Nat}
    (hM : zM y code' nL' d' rt' (.ref o :: As) S ra Sa) (hd : decode cc pc = .ok (.invokevirtual index, 3)) (hcl : zCL ci y.cls T N) (ho : zO ci o)
    (w1 : Cond.methodLink own index y ∈ zT) (w2 : Cond.instanceMethod y ∈ zT) (w3 : Cond.selects y.cls y y ∈ zT) (w4 : Cond.initialized y.cls ∈ zT) (w5 : Cond.code y code' nL' rt' ∈ zT)
    (hy : y.cls ≠ "java/lang/invoke/MethodHandle" ∧ y.cls ≠ "java/lang/invoke/VarHandle" ∧ (parseMethodDescriptor y.desc).map (fun d => d.parameters.length) = some As.length)
    (hdd : d' < d ∧ nL' ≤ 60) (hst : st0 = As.reverse ++ .ref o :: st) (hw : (st.map fun v => v.category).sum ≤ 8) (kk : J K (pc + 3) L (ra.toList ++ st) Sa) : J K pc L st0 S := by
  subst hst
  obtain ⟨⟨p, l, e, R, s⟩, ⟨m, args, below, meth, c⟩, ⟨D, ad, cy⟩, ⟨Q, nc, ns⟩⟩ := K
  obtain ⟨hx, hb, hown, hml, hR, hr, hlk, hts, hKK, hinj, hzX⟩ := hK
  intro H locs ls hP hS hl'
  have hl2 := hl'
  have cw : CallW R s args own y.cls index y code' nL' rt' (.code y code' nL' rt' :: zT) (zrm d') 0 0 As.length := by
    refine cwV As.length hts ?_ rfl rfl rfl ⟨rfl, hy⟩ ⟨by show d' + 1 ≤ R.frames; omega, by show 8 + (nL' + 11) + 100 * d' ≤ R.locals; omega⟩
    intro w hw
    simp only [wsV, List.mem_append, List.mem_cons, List.not_mem_nil, or_false] at hw
    rcases hw with (rfl | rfl | rfl | rfl) | rfl | hw
    · exact zT_good _ w1
    · exact zT_good _ w2
    · exact zT_good _ w3
    · exact zT_good _ w4
    · exact zT_good _ w5
    · exact zT_good _ hw
  intro T0 hT0 X
  have run := va_runV (e := e) (below := below) (meth := meth) (locs := locs) (cells := nc) (slots := ns) (As := As.map (mv ad)) (rest := st.map (mv ad)) (b := ad o) (g := F0 m pc ls ((As.reverse ++ .ref o :: st).map (mv ad))) (nL := nL) ⟨hx, hb, hml, hown, hts⟩ (n := As.length) (C := y.cls) (hM l D ad cy hinj) cw
    ⟨fun a U g mk q => ⟨q.1, q.2.1, va_K.moved (u := U) (U := U.calling g mk a) (Vm.Alike.refl U.vm) q.2.2.1, zX.same (u := U) (U := U.calling g mk a) rfl q.2.2.2⟩, va_recv hKK hP (ci := ci) (q0 := o) hcl.1 (by rw [zw_get ho.2, zc_obj ho.1 hcl.2.2.1]), fun U hU hW => ⟨by simp [mv], by rw [hU]; exact hP, va_K.moved hW.alike hKK, by rw [hU]; exact (hzX.kept hS.2.1).warm hW⟩⟩
    rfl (by simp) (by rw [← hml]; exact hl'.1) (by simp [mv]) (by have e := lv_room (m := m) (pc := pc) (ls := ls) (rest := (As.reverse ++ .ref o :: st).map (mv ad)) (st := st.map (mv ad)) (by rw [List.map_map]; have e2 : ((fun v : Value => v.category) ∘ mv ad) = fun v => v.category := by { funext v; exact mv_cat ad v }; rw [e2]; exact hw); exact e) hd ⟨hR.2.2.1, hR.2.2.2⟩ T0 hT0 X
  obtain ⟨v, st₀, t, T', L1, h0, X', hL1, e1, e2, ⟨hv, hPt, hF⟩, go⟩ := run
  cases hv
  have hS1 : va_S (zA ad) s.heap T'.heap (locs ++ L1) := by
    refine ⟨?_, fun q h1 h2 => ?_, fun z hz => ?_⟩
    · rw [e1]; exact Nat.le_trans hS.1 (by rw [← h0]; exact hF.1)
    · rw [e1, hF.2 q (by rw [h0]; exact Nat.lt_of_lt_of_le h1 hS.1) h2, h0]; exact hS.2.1 q h1 h2
    · rcases List.mem_append.mp hz with h | h
      · exact hS.2.2 z h
      · exact hL1 z h
  obtain ⟨t2, a1, b1⟩ := kk T'.heap (locs ++ L1) ls (by rw [e1]; exact hPt) hS1 hl' T' rfl X'
  refine ⟨t2, ?_, b1⟩
  refine go t2 ?_
  cases ra <;> exact a1
/-- a call of a method on a String constant -/
theorem j_callT (hK : KO K cc own nL d rt) {index : Nat} {y : MethodName} {code' : ByteArray} {nL' d' i : Nat} {rt' : Option FieldType} {As : List Value} {ra : Option Value} {Sa : St}
    (hM : zM y code' nL' d' rt' (.ref (1000 + i) :: As) S ra Sa) (hd : decode cc pc = .ok (.invokevirtual index, 3)) (hi : i < 5) (hyc : y.cls = "java/lang/String")
    (w1 : Cond.methodLink own index y ∈ zT) (w2 : Cond.instanceMethod y ∈ zT) (w3 : Cond.selects y.cls y y ∈ zT) (w4 : Cond.initialized y.cls ∈ zT) (w5 : Cond.code y code' nL' rt' ∈ zT)
    (hy : y.cls ≠ "java/lang/invoke/MethodHandle" ∧ y.cls ≠ "java/lang/invoke/VarHandle" ∧ (parseMethodDescriptor y.desc).map (fun d => d.parameters.length) = some As.length)
    (hdd : d' < d ∧ nL' ≤ 60) (hst : st0 = As.reverse ++ .ref (1000 + i) :: st) (hw : (st.map fun v => v.category).sum ≤ 8) (kk : J K (pc + 3) L (ra.toList ++ st) Sa) : J K pc L st0 S := by
  subst hst
  obtain ⟨⟨p, l, e, R, s⟩, ⟨m, args, below, meth, c⟩, ⟨D, ad, cy⟩, ⟨Q, nc, ns⟩⟩ := K
  obtain ⟨hx, hb, hown, hml, hR, hr, hlk, hts, hKK, hinj, hzX⟩ := hK
  intro H locs ls hP hS hl'
  have hl2 := hl'
  have cw : CallW R s args own y.cls index y code' nL' rt' (.code y code' nL' rt' :: zT) (zrm d') 0 0 As.length := by
    refine cwV As.length hts ?_ rfl rfl rfl ⟨rfl, hy⟩ ⟨by show d' + 1 ≤ R.frames; omega, by show 8 + (nL' + 11) + 100 * d' ≤ R.locals; omega⟩
    intro w hw
    simp only [wsV, List.mem_append, List.mem_cons, List.not_mem_nil, or_false] at hw
    rcases hw with (rfl | rfl | rfl | rfl) | rfl | hw
    · exact zT_good _ w1
    · exact zT_good _ w2
    · exact zT_good _ w3
    · exact zT_good _ w4
    · exact zT_good _ w5
    · exact zT_good _ hw
  intro T0 hT0 X
  have run := va_runV (e := e) (below := below) (meth := meth) (locs := locs) (cells := nc) (slots := ns) (As := As.map (mv ad)) (rest := st.map (mv ad)) (b := ad (1000 + i)) (g := F0 m pc ls ((As.reverse ++ .ref (1000 + i) :: st).map (mv ad))) (nL := nL) ⟨hx, hb, hml, hown, hts⟩ (n := As.length) (C := y.cls) (hM l D ad cy hinj) cw
    ⟨fun a U g mk q => ⟨q.1, q.2.1, va_K.moved (u := U) (U := U.calling g mk a) (Vm.Alike.refl U.vm) q.2.2.1, zX.same (u := U) (U := U.calling g mk a) rfl q.2.2.2⟩, by rw [hyc]; have q := vk_recv (i := i) hzX.1.2.2.2.2.1 hi hS; exact q, fun U hU hW => ⟨by simp [mv], by rw [hU]; exact hP, va_K.moved hW.alike hKK, by rw [hU]; exact (hzX.kept hS.2.1).warm hW⟩⟩
    rfl (by simp) (by rw [← hml]; exact hl'.1) (by simp [mv]) (by have e := lv_room (m := m) (pc := pc) (ls := ls) (rest := (As.reverse ++ .ref (1000 + i) :: st).map (mv ad)) (st := st.map (mv ad)) (by rw [List.map_map]; have e2 : ((fun v : Value => v.category) ∘ mv ad) = fun v => v.category := by { funext v; exact mv_cat ad v }; rw [e2]; exact hw); exact e) hd ⟨hR.2.2.1, hR.2.2.2⟩ T0 hT0 X
  obtain ⟨v, st₀, t, T', L1, h0, X', hL1, e1, e2, ⟨hv, hPt, hF⟩, go⟩ := run
  cases hv
  have hS1 : va_S (zA ad) s.heap T'.heap (locs ++ L1) := by
    refine ⟨?_, fun q h1 h2 => ?_, fun z hz => ?_⟩
    · rw [e1]; exact Nat.le_trans hS.1 (by rw [← h0]; exact hF.1)
    · rw [e1, hF.2 q (by rw [h0]; exact Nat.lt_of_lt_of_le h1 hS.1) h2, h0]; exact hS.2.1 q h1 h2
    · rcases List.mem_append.mp hz with h | h
      · exact hS.2.2 z h
      · exact hL1 z h
  obtain ⟨t2, a1, b1⟩ := kk T'.heap (locs ++ L1) ls (by rw [e1]; exact hPt) hS1 hl' T' rfl X'
  refine ⟨t2, ?_, b1⟩
  refine go t2 ?_
  cases ra <;> exact a1
/-- a call of a static method -/
theorem j_callS (hK : KO K cc own nL d rt) {index : Nat} {y : MethodName} {code' : ByteArray} {nL' d' : Nat} {rt' : Option FieldType} {As : List Value} {ra : Option Value} {Sa : St}
    (hM : zM y code' nL' d' rt' As S ra Sa) (hd : decode cc pc = .ok (.invokestatic index, 3))
    (w1 : Cond.methodLink own index y ∈ zT) (w2 : Cond.static y ∈ zT) (w4 : Cond.initialized y.cls ∈ zT) (w5 : Cond.code y code' nL' rt' ∈ zT)
    (hy : y.cls ≠ "java/lang/invoke/MethodHandle" ∧ y.cls ≠ "java/lang/invoke/VarHandle" ∧ (parseMethodDescriptor y.desc).map (fun d => d.parameters.length) = some As.length)
    (hdd : d' < d ∧ nL' ≤ 60) (hst : st0 = As.reverse ++ st) (hw : (st.map fun v => v.category).sum ≤ 8) (kk : J K (pc + 3) L (ra.toList ++ st) Sa) : J K pc L st0 S := by
  subst hst
  obtain ⟨⟨p, l, e, R, s⟩, ⟨m, args, below, meth, c⟩, ⟨D, ad, cy⟩, ⟨Q, nc, ns⟩⟩ := K
  obtain ⟨hx, hb, hown, hml, hR, hr, hlk, hts, hKK, hinj, hzX⟩ := hK
  intro H locs ls hP hS hl'
  have cw : CallB R s args own index y code' nL' rt' (.code y code' nL' rt' :: zT) (zrm d') 0 0 As.length ∧ (Cond.static y).before args s = true := by
    refine va_cwS As.length hts ?_ rfl rfl rfl hy ⟨by show d' + 1 ≤ R.frames; omega, by show 8 + (nL' + 11) + 100 * d' ≤ R.locals; omega⟩
    intro w hw
    simp only [va_wsS, List.mem_append, List.mem_cons, List.not_mem_nil, or_false] at hw
    rcases hw with (rfl | rfl | rfl) | rfl | hw
    · exact zT_good _ w1
    · exact zT_good _ w2
    · exact zT_good _ w4
    · exact zT_good _ w5
    · exact zT_good _ hw
  intro T0 hT0 X
  have run := va_runS (e := e) (below := below) (meth := meth) (locs := locs) (cells := nc) (slots := ns) (As := As.map (mv ad)) (rest := st.map (mv ad)) (g := F0 m pc ls ((As.reverse ++ st).map (mv ad))) (nL := nL) ⟨hx, hb, hml, hown, hts⟩ (n := As.length) (hM l D ad cy hinj) cw
    ⟨fun a U g mk q => ⟨q.1, q.2.1, va_K.moved (u := U) (U := U.calling g mk a) (Vm.Alike.refl U.vm) q.2.2.1, zX.same (u := U) (U := U.calling g mk a) rfl q.2.2.2⟩, fun U hU hW => ⟨rfl, by rw [hU]; exact hP, va_K.moved hW.alike hKK, by rw [hU]; exact (hzX.kept hS.2.1).warm hW⟩⟩
    rfl (by simp) (by rw [← hml]; exact hl'.1) (by simp) (by have e := lv_room (m := m) (pc := pc) (ls := ls) (rest := (As.reverse ++ st).map (mv ad)) (st := st.map (mv ad)) (by rw [List.map_map]; have e2 : ((fun v : Value => v.category) ∘ mv ad) = fun v => v.category := by { funext v; exact mv_cat ad v }; rw [e2]; exact hw); exact e) hd ⟨hR.2.2.1, hR.2.2.2⟩ T0 hT0 X
  obtain ⟨v, st₀, t, T', L1, h0, X', hL1, e1, e2, ⟨hv, hPt, hF⟩, go⟩ := run
  cases hv
  have hS1 : va_S (zA ad) s.heap T'.heap (locs ++ L1) := by
    refine ⟨?_, fun q h1 h2 => ?_, fun z hz => ?_⟩
    · rw [e1]; exact Nat.le_trans hS.1 (by rw [← h0]; exact hF.1)
    · rw [e1, hF.2 q (by rw [h0]; exact Nat.lt_of_lt_of_le h1 hS.1) h2, h0]; exact hS.2.1 q h1 h2
    · rcases List.mem_append.mp hz with h | h
      · exact hS.2.2 z h
      · exact hL1 z h
  obtain ⟨t2, a1, b1⟩ := kk T'.heap (locs ++ L1) ls (by rw [e1]; exact hPt) hS1 hl' T' rfl X'
  refine ⟨t2, ?_, b1⟩
  refine go t2 ?_
  cases ra <;> exact a1

/-- a call of a nest mate's private static method -/
theorem j_callN (hK : KO K cc own nL d rt) {index : Nat} {y : MethodName} {code' : ByteArray} {nL' d' : Nat} {rt' : Option FieldType} {As : List Value} {ra : Option Value} {Sa : St}
    (hM : zM y code' nL' d' rt' As S ra Sa) (hd : decode cc pc = .ok (.invokestatic index, 3))
    {host : String} (w1 : ∀ (ad : Nat → Nat) (U : State) (H : Heap), zX ad U H → va_Nw (.methodLinkNest own index y host) U) (w2 : Cond.static y ∈ zT) (w4 : Cond.initialized y.cls ∈ zT) (w5 : Cond.code y code' nL' rt' ∈ zT)
    (hy : y.cls ≠ "java/lang/invoke/MethodHandle" ∧ y.cls ≠ "java/lang/invoke/VarHandle" ∧ (parseMethodDescriptor y.desc).map (fun d => d.parameters.length) = some As.length)
    (hdd : d' < d ∧ nL' ≤ 60) (hst : st0 = As.reverse ++ st) (hw : (st.map fun v => v.category).sum ≤ 8) (kk : J K (pc + 3) L (ra.toList ++ st) Sa) : J K pc L st0 S := by
  subst hst
  obtain ⟨⟨p, l, e, R, s⟩, ⟨m, args, below, meth, c⟩, ⟨D, ad, cy⟩, ⟨Q, nc, ns⟩⟩ := K
  obtain ⟨hx, hb, hown, hml, hR, hr, hlk, hts, hKK, hinj, hzX⟩ := hK
  intro H locs ls hP hS hl'
  have cw : va_CN R s args own index y host code' nL' rt' (.code y code' nL' rt' :: zT) (zrm d') 0 0 As.length ∧ (Cond.static y).before args s = true ∧ True :=
    ⟨va_cnB As.length hts (zG w5) rfl rfl rfl (w1 ad s s.heap hzX) (hts _ w4) hy ⟨by show d' + 1 ≤ R.frames; omega, by show 8 + (nL' + 11) + 100 * d' ≤ R.locals; omega⟩, hts _ w2, trivial⟩
  intro T0 hT0 X
  have run := va_runSN (e := e) (below := below) (meth := meth) (locs := locs) (cells := nc) (slots := ns) (As := As.map (mv ad)) (rest := st.map (mv ad)) (g := F0 m pc ls ((As.reverse ++ st).map (mv ad))) (nL := nL) ⟨hx, hb, hml, hown, hts⟩ (n := As.length) (hM l D ad cy hinj) cw
    ⟨fun a U g mk q => ⟨q.1, q.2.1, va_K.moved (u := U) (U := U.calling g mk a) (Vm.Alike.refl U.vm) q.2.2.1, zX.same (u := U) (U := U.calling g mk a) rfl q.2.2.2⟩, fun U hU hW => ⟨rfl, by rw [hU]; exact hP, va_K.moved hW.alike hKK, by rw [hU]; exact (hzX.kept hS.2.1).warm hW⟩⟩
    rfl (by simp) (by rw [← hml]; exact hl'.1) (by simp) (by have e := lv_room (m := m) (pc := pc) (ls := ls) (rest := (As.reverse ++ st).map (mv ad)) (st := st.map (mv ad)) (by rw [List.map_map]; have e2 : ((fun v : Value => v.category) ∘ mv ad) = fun v => v.category := by { funext v; exact mv_cat ad v }; rw [e2]; exact hw); exact e) hd ⟨hR.2.2.1, hR.2.2.2⟩ T0 hT0 X
  obtain ⟨v, st₀, t, T', L1, h0, X', hL1, e1, e2, ⟨hv, hPt, hF⟩, go⟩ := run
  cases hv
  have hS1 : va_S (zA ad) s.heap T'.heap (locs ++ L1) := by
    refine ⟨?_, fun q h1 h2 => ?_, fun z hz => ?_⟩
    · rw [e1]; exact Nat.le_trans hS.1 (by rw [← h0]; exact hF.1)
    · rw [e1, hF.2 q (by rw [h0]; exact Nat.lt_of_lt_of_le h1 hS.1) h2, h0]; exact hS.2.1 q h1 h2
    · rcases List.mem_append.mp hz with h | h
      · exact hS.2.2 z h
      · exact hL1 z h
  obtain ⟨t2, a1, b1⟩ := kk T'.heap (locs ++ L1) ls (by rw [e1]; exact hPt) hS1 hl' T' rfl X'
  refine ⟨t2, ?_, b1⟩
  refine go t2 ?_
  cases ra <;> exact a1
end JC
section JP
variable {α β : Type} {K : CT} {pc : Nat} {L : List (Nat × Value)} {st : List Value} {S : St}
def lt {γ : Type} (a : γ) (k : γ → Option β) : Option β := k a
def bd (o : Option (α × St)) (k : α → St → Option β) : Option β := match o with
  | none => none
  | some q => k q.1 q.2
def lp {V : Type} (body : (V → St → Option β) → V → St → Option β) : Nat → V → St → Option β
  | 0 => fun _ _ => none
  | n + 1 => body (lp body n)
def FU : Nat := 5000
theorem lt_S {a : St} {k : St → Option β} {out : β} (hf : lt a k = some out) (kk : ∀ S1, k S1 = some out → J K pc L st S1) : J K pc L st a := kk a hf
theorem lt_I {a : Int32} {k : Int32 → Option β} {out : β} (hf : lt a k = some out) (kk : ∀ x, k x = some out → J K pc L (.int x :: st) S) : J K pc L (.int a :: st) S := kk a hf
theorem lt_L {a : Int64} {k : Int64 → Option β} {out : β} (hf : lt a k = some out) (kk : ∀ x, k x = some out → J K pc L (.long x :: st) S) : J K pc L (.long a :: st) S := kk a hf
theorem if_1 {c : Prop} [Decidable c] {a b : Option β} {out : β} (h : c) (hf : (if c then a else b) = some out) : a = some out := by rwa [if_pos h] at hf
theorem if_2 {c : Prop} [Decidable c] {a b : Option β} {out : β} (h : ¬ c) (hf : (if c then a else b) = some out) : b = some out := by rwa [if_neg h] at hf
theorem gd {c : Prop} [Decidable c] {a : Option β} {out : β} (hf : (if c then a else none) = some out) : c ∧ a = some out := by
  by_cases h : c
  · exact ⟨h, by rwa [if_pos h] at hf⟩
  · rw [if_neg h] at hf; cases hf
theorem bd_J {o : Option (α × St)} {k : α → St → Option β} {out : β} (hf : bd o k = some out) : ∃ r S1, o = some (r, S1) ∧ k r S1 = some out := by
  cases o with
  | none => cases hf
  | some q => exact ⟨q.1, q.2, rfl, hf⟩
theorem lp_J {V : Type} {body : (V → St → Option β) → V → St → Option β} {out : β} {P : V → St → Prop} (hb : ∀ k, (∀ v S, k v S = some out → P v S) → ∀ v S, body k v S = some out → P v S) : ∀ n v S, lp body n v S = some out → P v S
  | 0, v, S, hf => by cases hf
  | n + 1, v, S, hf => hb (lp body n) (lp_J hb n) v S hf
theorem rt_I {K : CT} {v r : Int32} {S S' : St} (hA : zans K (some (.int r), S')) (hf : some (v, S) = some (r, S')) : zans K (some (.int v), S) := by cases hf; exact hA
theorem rt_L {K : CT} {v r : Int64} {S S' : St} (hA : zans K (some (.long r), S')) (hf : some (v, S) = some (r, S')) : zans K (some (.long v), S) := by cases hf; exact hA
theorem rt_R {K : CT} {v r : Nat} {S S' : St} (hA : zans K (some (.ref r), S')) (hf : some (v, S) = some (r, S')) : zans K (some (.ref v), S) := by cases hf; exact hA
theorem rt_V {K : CT} {v r : Unit} {S S' : St} (hA : zans K (none, S')) (hf : some (v, S) = some (r, S')) : zans K (none, S) := by cases hf; exact hA
end JP
