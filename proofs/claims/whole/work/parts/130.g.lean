theorem zob_i : Cond.instanceMethod Lib.objectInit ∈ zT := zT_in (zt1 (List.mem_of_getElem? (i := 31) rfl)) rfl
theorem zob_c : Cond.code Lib.objectInit ⟨#[0xb1]⟩ 1 none ∈ zT := zT_in (zt1 (List.mem_of_getElem? (i := 32) rfl)) rfl
/-! the growing world: ints and references by object's number; what isn't made yet is 0 and null -/
abbrev SG : Type := (Nat → Nat → Int32) × (Nat → Nat → Option Nat)
def pI (G : SG) (o k : Nat) (v : Int32) : SG := (fun a b => if a = o then (if b = k then v else G.1 a b) else G.1 a b, G.2)
def pR (G : SG) (o k : Nat) (r : Nat) : SG := (G.1, fun a b => if a = o then (if b = k then some r else G.2 a b) else G.2 a b)
def zvG (ad : Nat → Nat) (G : SG) (o k : Nat) : Value := if zf (zk o) k = 0 then .int (G.1 o k) else va_rf ((G.2 o k).map ad)
def zcG (ad : Nat → Nat) (cy : Nat → ClassId) (G : SG) (o : Nat) : va_E :=
  if zk o < 12 then .inr (zk o, (List.range (zn (zk o))).map (zvG ad G o))
  else if zk o = 14 then .inl (cy 14, zl o, .inr (.inl (fun _ => 0)))
  else if zk o = 16 then .inl (cy 16, zl o, .inr (.inr (.inr (.inr (fun j => (G.2 o j).map ad)))))
  else .inl (cy (zk o), zl o, .inl (fun _ => 0))
def zwG (ad : Nat → Nat) (cy : Nat → ClassId) (n : Nat) (G : SG) : va_W := (List.range n).map (fun o => (ad o, zcG ad cy G o))
def okG (G : SG) (n : Nat) : Prop := (∀ o k, n ≤ o → G.1 o k = 0 ∧ G.2 o k = none) ∧ ∀ o k r, G.2 o k = some r → r < n
def okV (n : Nat) (v : Value) : Prop := match v with
  | .ref a => a < n ∨ 1000 ≤ a
  | _ => True
theorem zwG_len (ad : Nat → Nat) (cy : Nat → ClassId) (n : Nat) (G : SG) : (zwG ad cy n G).length = n := by simp [zwG]
theorem zwG_get {ad : Nat → Nat} {cy : Nat → ClassId} {n : Nat} {G : SG} {o : Nat} (h : o < n) : (zwG ad cy n G)[o]? = some (ad o, zcG ad cy G o) := by
  simp [zwG, List.getElem?_map, List.getElem?_range h]
theorem zwG_set {ad : Nat → Nat} {cy : Nat → ClassId} {n : Nat} {G G' : SG} {o : Nat} {e : va_E} (h : o < n) (he : zcG ad cy G' o = e) (hne : ∀ q, q ≠ o → zcG ad cy G' q = zcG ad cy G q) : (zwG ad cy n G).set o (ad o, e) = zwG ad cy n G' := by
  apply List.ext_getElem?
  intro k
  by_cases hk : k = o
  · subst hk
    rw [List.getElem?_set_self (by rw [zwG_len]; exact h), zwG_get h, he]
  · rw [List.getElem?_set_ne (fun q => hk q.symm)]
    by_cases hz : k < n
    · rw [zwG_get hz, zwG_get hz, hne k hk]
    · rw [List.getElem?_eq_none (by rw [zwG_len]; omega), List.getElem?_eq_none (by rw [zwG_len]; omega)]
theorem zcG_off {ad : Nat → Nat} {cy : Nat → ClassId} {G G' : SG} {o : Nat} (h : G'.1 o = G.1 o) (h2 : G'.2 o = G.2 o) : zcG ad cy G' o = zcG ad cy G o := by
  have e : zvG ad G' o = zvG ad G o := by
    funext k
    simp [zvG, h, h2]
  simp [zcG, h2, e]
theorem map_up {ad : Nat → Nat} {n q : Nat} {r : Option Nat} (h : ∀ x, r = some x → x < n) : r.map (va_up ad n q) = r.map ad := by
  cases r with
  | none => rfl
  | some x =>
    have := h x rfl
    simp [va_up, Nat.ne_of_lt this]
theorem zcG_up {ad : Nat → Nat} {cy : Nat → ClassId} {G : SG} {n q o : Nat} (hG : okG G n) : zcG (va_up ad n q) cy G o = zcG ad cy G o := by
  have e : zvG (va_up ad n q) G o = zvG ad G o := by
    funext k
    simp only [zvG]
    rw [map_up (hG.2 o k)]
  have e2 : (fun j => (G.2 o j).map (va_up ad n q)) = fun j => (G.2 o j).map ad := by
    funext j
    rw [map_up (hG.2 o j)]
  simp only [zcG, e, e2]
theorem zwG_push {ad : Nat → Nat} {cy : Nat → ClassId} {G : SG} {n q : Nat} {e : va_E} (hG : okG G n) (he : zcG ad cy G n = e) : zwG ad cy n G ++ [(q, e)] = zwG (va_up ad n q) cy (n + 1) G := by
  apply List.ext_getElem?
  intro k
  by_cases hk : k < n
  · rw [List.getElem?_append_left (by rw [zwG_len]; exact hk), zwG_get hk, zwG_get (by omega), zcG_up hG]
    simp [va_up, Nat.ne_of_lt hk]
  · by_cases h2 : k = n
    · subst h2
      rw [List.getElem?_append_right (by rw [zwG_len]; omega), zwG_get (by omega), zcG_up hG, he, zwG_len]
      simp [va_up]
    · rw [List.getElem?_eq_none (by simp [zwG_len]; omega), List.getElem?_eq_none (by rw [zwG_len]; omega)]
theorem mv_up {ad : Nat → Nat} {n q : Nat} {v : Value} (hn2 : n < 1000) (h : okV n v) : mv (va_up ad n q) v = mv ad v := by
  cases v with
  | ref a =>
    have h' : ∀ a n : Nat, n < 1000 → a < n ∨ 1000 ≤ a → a ≠ n := by intro a n h1 h2; omega
    have h' := h' a n hn2 h
    simp [mv, va_up, h']
  | _ => rfl
theorem mvs_up {ad : Nat → Nat} {n q : Nat} {st : List Value} (hn2 : n < 1000) (h : ∀ v ∈ st, okV n v) : st.map (mv (va_up ad n q)) = st.map (mv ad) := List.map_congr_left fun v hv => mv_up hn2 (h v hv)
theorem mLs_up {ad : Nat → Nat} {n q : Nat} {L : List (Nat × Value)} (hn2 : n < 1000) (h : ∀ v ∈ L, okV n v.2) : L.map (mL (va_up ad n q)) = L.map (mL ad) := List.map_congr_left fun v hv => by
  show (v.1, mv _ v.2) = (v.1, mv _ v.2)
  rw [mv_up hn2 (h v hv)]
theorem okG_new {G : SG} {n : Nat} (h : okG G n) : okG G (n + 1) := ⟨fun o k ho => h.1 o k (by omega), fun o k r hr => Nat.lt_succ_of_lt (h.2 o k r hr)⟩
theorem okG_pI {G : SG} {n o k : Nat} {v : Int32} (h : okG G n) (ho : o < n) : okG (pI G o k v) n := by
  refine ⟨fun a b ha => ?_, fun a b r hr => h.2 a b r hr⟩
  have : a ≠ o := by omega
  simp [pI, this, h.1 a b ha]
theorem okG_pR {G : SG} {n o k r : Nat} (h : okG G n) (ho : o < n) (hr : r < n) : okG (pR G o k r) n := by
  refine ⟨fun a b ha => ?_, fun a b x hx => ?_⟩
  · have : a ≠ o := by omega
    simp [pR, this, h.1 a b ha]
  · simp only [pR] at hx
    split at hx
    · split at hx
      · cases hx; exact hr
      · exact h.2 a b x hx
    · exact h.2 a b x hx
theorem zcG_obj {ad : Nat → Nat} {cy : Nat → ClassId} {G : SG} {o ci : Nat} (h : zk o = ci) (hc : ci < 12) : zcG ad cy G o = .inr (ci, (List.range (zn ci)).map (zvG ad G o)) := by
  simp [zcG, h, hc]
theorem zfG_at {ad : Nat → Nat} {G : SG} {o k n : Nat} (h : k < n) : ((List.range n).map (zvG ad G o))[k]? = some (zvG ad G o k) := by simp [List.getElem?_map, List.getElem?_range h]
theorem zcG_put {ad : Nat → Nat} {cy : Nat → ClassId} {G G' : SG} {o ci k : Nat} (h : zk o = ci) (hc : ci < 12) (hne : ∀ j, j ≠ k → G'.1 o j = G.1 o j ∧ G'.2 o j = G.2 o j) : zcG ad cy G' o = .inr (ci, ((List.range (zn ci)).map (zvG ad G o)).set k (zvG ad G' o k)) := by
  rw [zcG_obj h hc]
  congr 2
  apply List.ext_getElem?
  intro j
  by_cases hj : j = k
  · subst hj
    by_cases hn : j < zn ci
    · rw [zfG_at hn, List.getElem?_set_self (by simpa using hn)]
    · rw [List.getElem?_eq_none (by simpa using hn), List.getElem?_eq_none (by simpa using hn)]
  · rw [List.getElem?_set_ne (fun q => hj q.symm)]
    by_cases hn : j < zn ci
    · rw [zfG_at hn, zfG_at hn]
      simp [zvG, hne j hj]
    · rw [List.getElem?_eq_none (by simpa using hn), List.getElem?_eq_none (by simpa using hn)]
/-! the context of a constructor's walk: .., the addresses at its start, what may be written, what is to be come to -/
abbrev CG : Type := (Program × Launch × Env × Room × State) × (MethodId × Array Value × List Frame × Method × Code) × (va_G × (Nat → ClassId)) × (Nat × (Nat → Nat)) × (Nat → Prop) × (State → Prop)
def JG (K : CG) (pc : Nat) (L : List (Nat × Value)) (st : List Value) (n : Nat) (G : SG) (nc ns : Nat) : Prop := match K with
  | ((p, l, e, R, s), (m, args, below, meth, c), (D, cy), (n0, ad0), A, Q) => okG G n → n0 ≤ n → ∀ (ad : Nat → Nat) (H : Heap) (locs : List Loc) (ls : Array Slot), (∀ o, o < n0 ∨ 1000 ≤ o → ad o = ad0 o) → va_P D vwCl (zwG ad cy n G) H → va_D A (zwG ad cy n G) → va_S A s.heap H locs → lv_has ls c.maxLocals (L.map (mL ad)) → W p l e R s m args below meth c H locs nc ns Q (F0 m pc ls (st.map (mv ad)))
def KG (K : CG) (code : ByteArray) (own : String) (nL d cN sN : Nat) : Prop := match K with
  | ((p, _, _, R, s), (m, args, _, meth, c), (D, cy), _, A, _) => p.tables.exec = Jvm.exec ∧ c.code = code ∧ s.vm.findClass own = some m.cls ∧ c.maxLocals = nL ∧ (d ≤ R.frames ∧ 100 * d ≤ R.locals ∧ cN ≤ R.cells ∧ sN ≤ R.slots) ∧ (∀ w ∈ zT, w.before args s = true) ∧ va_K D vwCl (zty cy) s ∧ (∀ q, s.heap.size ≤ q → A q) ∧ va_AO "CaveAdvice$State" s
/-- it is a constructor -/
def KI (K : CG) : Prop := K.2.1.2.2.2.1.name = "<init>" ∧ K.2.1.2.2.2.1.locks = false ∧ K.2.1.2.2.2.1.sig.returnType = none
section JGR
variable {K : CG} {cc : ByteArray} {own : String} {nL d cN sN pc n nc ns : Nat} {L L' : List (Nat × Value)} {st st0 : List Value} {G : SG}

theorem g_aload_n (hK : KG K cc own nL d cN sN) {f : Fin 4} {i : Nat} {x : Nat} (hd : decode cc pc = .ok (.aload_n f, 1)) (k : Nat) (hi : (f : Nat) = i) (hl : L[k]? = some (i, .ref x)) (kk : JG K (pc + 1) L (.ref x :: st) n G nc ns) : JG K pc L st n G nc ns := by
  obtain ⟨⟨p, l, e, R, s⟩, ⟨m, args, below, meth, c⟩, ⟨D, cy⟩, ⟨n0, ad0⟩, A, Q⟩ := K
  obtain ⟨hx, hb, hown, hml, hR, hts, hKK, hA, hAO⟩ := hK
  intro hG hn0 ad H locs ls had hP hD hS hl'
  exact lv_aload_n hx hb hd hi (lv_at hl' k (mL_at hl)) (kk hG hn0 ad H locs ls had hP hD hS hl')
theorem g_iload_n (hK : KG K cc own nL d cN sN) {f : Fin 4} {i : Nat} {x : Int32} (hd : decode cc pc = .ok (.iload_n f, 1)) (k : Nat) (hi : (f : Nat) = i) (hl : L[k]? = some (i, .int x)) (kk : JG K (pc + 1) L (.int x :: st) n G nc ns) : JG K pc L st n G nc ns := by
  obtain ⟨⟨p, l, e, R, s⟩, ⟨m, args, below, meth, c⟩, ⟨D, cy⟩, ⟨n0, ad0⟩, A, Q⟩ := K
  obtain ⟨hx, hb, hown, hml, hR, hts, hKK, hA, hAO⟩ := hK
  intro hG hn0 ad H locs ls had hP hD hS hl'
  exact lv_iload_n hx hb hd hi (lv_at hl' k (mL_at hl)) (kk hG hn0 ad H locs ls had hP hD hS hl')
theorem g_istore_n (hK : KG K cc own nL d cN sN) {f : Fin 4} {i : Nat} {x : Int32} (hd : decode cc pc = .ok (.istore_n f, 1)) (hi : (f : Nat) = i) (hn : i < nL) (hl : (i, Value.int x) :: L.filter (fun q => !(q.1 == i) && !(q.1 + 1 == i && q.2.category == 2)) = L') (kk : JG K (pc + 1) L' st n G nc ns) : JG K pc L (.int x :: st) n G nc ns := by
  obtain ⟨⟨p, l, e, R, s⟩, ⟨m, args, below, meth, c⟩, ⟨D, cy⟩, ⟨n0, ad0⟩, A, Q⟩ := K
  obtain ⟨hx, hb, hown, hml, hR, hts, hKK, hA, hAO⟩ := hK
  intro hG hn0 ad H locs ls had hP hD hS hl'
  exact lv_istore_n hx hb hd hi hl' (by rw [hml]; exact hn) (mL_f1 ad _ _ hl) (fun ls' h => kk hG hn0 ad H locs ls' had hP hD hS h)
theorem g_iinc (hK : KG K cc own nL d cN sN) {i : Nat} {n1 : Int} {x v : Int32} (hd : decode cc pc = .ok (.iinc i n1, 3)) (k : Nat) (hk : L[k]? = some (i, .int x)) (hv : x + Int32.ofInt n1 = v) (hn : i < nL) (hl : (i, Value.int v) :: L.filter (fun q => !(q.1 == i) && !(q.1 + 1 == i && q.2.category == 2)) = L') (kk : JG K (pc + 3) L' st n G nc ns) : JG K pc L st n G nc ns := by
  obtain ⟨⟨p, l, e, R, s⟩, ⟨m, args, below, meth, c⟩, ⟨D, cy⟩, ⟨n0, ad0⟩, A, Q⟩ := K
  obtain ⟨hx, hb, hown, hml, hR, hts, hKK, hA, hAO⟩ := hK
  intro hG hn0 ad H locs ls had hP hD hS hl'
  exact lv_iinc (k := k) hx hb hd hl' (mL_at hk) hv (by rw [hml]; exact hn) (mL_f1 ad _ _ hl) (fun ls' h => kk hG hn0 ad H locs ls' had hP hD hS h)
theorem g_iconst (hK : KG K cc own nL d cN sN) {n1 : Int} (v : Int32) (hd : decode cc pc = .ok (.iconst n1, 1)) (hv : Int32.ofInt n1 = v) (kk : JG K (pc + 1) L (.int v :: st) n G nc ns) : JG K pc L st n G nc ns := by
  obtain ⟨⟨p, l, e, R, s⟩, ⟨m, args, below, meth, c⟩, ⟨D, cy⟩, ⟨n0, ad0⟩, A, Q⟩ := K
  obtain ⟨hx, hb, hown, hml, hR, hts, hKK, hA, hAO⟩ := hK
  intro hG hn0 ad H locs ls had hP hD hS hl'
  exact lv_iconst hx hb hd hv (kk hG hn0 ad H locs ls had hP hD hS hl')
theorem g_bipush (hK : KG K cc own nL d cN sN) {n1 : Int} (v : Int32) (hd : decode cc pc = .ok (.bipush n1, 2)) (hv : (Int8.ofInt n1).toInt32 = v) (kk : JG K (pc + 2) L (.int v :: st) n G nc ns) : JG K pc L st n G nc ns := by
  obtain ⟨⟨p, l, e, R, s⟩, ⟨m, args, below, meth, c⟩, ⟨D, cy⟩, ⟨n0, ad0⟩, A, Q⟩ := K
  obtain ⟨hx, hb, hown, hml, hR, hts, hKK, hA, hAO⟩ := hK
  intro hG hn0 ad H locs ls had hP hD hS hl'
  exact lv_bipush hx hb hd hv (kk hG hn0 ad H locs ls had hP hD hS hl')
theorem g_sipush (hK : KG K cc own nL d cN sN) {n1 : Int} (v : Int32) (hd : decode cc pc = .ok (.sipush n1, 3)) (hv : (Int16.ofInt n1).toInt32 = v) (kk : JG K (pc + 3) L (.int v :: st) n G nc ns) : JG K pc L st n G nc ns := by
  obtain ⟨⟨p, l, e, R, s⟩, ⟨m, args, below, meth, c⟩, ⟨D, cy⟩, ⟨n0, ad0⟩, A, Q⟩ := K
  obtain ⟨hx, hb, hown, hml, hR, hts, hKK, hA, hAO⟩ := hK
  intro hG hn0 ad H locs ls had hP hD hS hl'
  exact lv_sipush hx hb hd hv (kk hG hn0 ad H locs ls had hP hD hS hl')
theorem g_dup (hK : KG K cc own nL d cN sN) {v : Value} (hd : decode cc pc = .ok (.dup, 1)) (hv : v.category = 1) (kk : JG K (pc + 1) L (v :: v :: st) n G nc ns) : JG K pc L (v :: st) n G nc ns := by
  obtain ⟨⟨p, l, e, R, s⟩, ⟨m, args, below, meth, c⟩, ⟨D, cy⟩, ⟨n0, ad0⟩, A, Q⟩ := K
  obtain ⟨hx, hb, hown, hml, hR, hts, hKK, hA, hAO⟩ := hK
  intro hG hn0 ad H locs ls had hP hD hS hl'
  exact lv_dup hx hb hd ((mv_cat ad v).trans hv) (kk hG hn0 ad H locs ls had hP hD hS hl')
theorem g_icmp_ge (hK : KG K cc own nL d cN sN) {x y : Int32} {off : Int} (tgt : Nat) (hd : decode cc pc = .ok (.if_icmp .ge off, 3)) (ht : (pc : Int) + off = (tgt : Int)) (kt : y ≤ x → JG K tgt L st n G nc ns) (kf : ¬ y ≤ x → JG K (pc + 3) L st n G nc ns) : JG K pc L (.int y :: .int x :: st) n G nc ns := by
  obtain ⟨⟨p, l, e, R, s⟩, ⟨m, args, below, meth, c⟩, ⟨D, cy⟩, ⟨n0, ad0⟩, A, Q⟩ := K
  obtain ⟨hx, hb, hown, hml, hR, hts, hKK, hA, hAO⟩ := hK
  intro hG hn0 ad H locs ls had hP hD hS hl'
  exact lv_icmp_ge hx hb hd ht (fun h => kt h hG hn0 ad H locs ls had hP hD hS hl') (fun h => kf h hG hn0 ad H locs ls had hP hD hS hl')
theorem g_goto (hK : KG K cc own nL d cN sN) {off : Int} (tgt : Nat) (hd : decode cc pc = .ok (.goto off, 3)) (ht : (pc : Int) + off = (tgt : Int)) (kk : JG K tgt L st n G nc ns) : JG K pc L st n G nc ns := by
  obtain ⟨⟨p, l, e, R, s⟩, ⟨m, args, below, meth, c⟩, ⟨D, cy⟩, ⟨n0, ad0⟩, A, Q⟩ := K
  obtain ⟨hx, hb, hown, hml, hR, hts, hKK, hA, hAO⟩ := hK
  intro hG hn0 ad H locs ls had hP hD hS hl'
  exact lv_goto hx hb hd ht (kk hG hn0 ad H locs ls had hP hD hS hl')
theorem g_pc {pc' : Nat} (h : pc = pc') (k : JG K pc' L st n G nc ns) : JG K pc L st n G nc ns := h ▸ k
theorem g_getR (hK : KG K cc own nL d cN sN) {index ci k o r : Nat} {ty : FieldType} {fin : Bool} (hf : zFL own index ci k ty fin) (hd : decode cc pc = .ok (.getfield index, 3)) (ho : zk o = ci) (hon : o < n) (hz : zf ci k ≠ 0) (hr : G.2 o k = some r) (kk : JG K (pc + 3) L (.ref r :: st) n G nc ns) : JG K pc L (.ref o :: st) n G nc ns := by
  obtain ⟨⟨p, l, e, R, s⟩, ⟨m, args, below, meth, c⟩, ⟨D, cy⟩, ⟨n0, ad0⟩, A, Q⟩ := K
  obtain ⟨hx, hb, hown, hml, hR, hts, hKK, hA, hAO⟩ := hK
  intro hG hn0 ad H locs ls had hP hD hS hl'
  obtain ⟨C, T, N, ⟨hc, hN, hci, hin, -, -⟩, hk, hw, -, -⟩ := hf
  refine va_get (D := D) (v := mv ad (.ref r)) hx hb hts hin hown hKK hP o (by rw [zwG_get hon, zcG_obj ho hci]) hc k hk (hts _ hw) (fun _ h => h) ?_ hd (kk hG hn0 ad H locs ls had hP hD hS hl')
  rw [zfG_at (by rw [← hN]; exact hk)]
  simp [zvG, ho, hz, hr, va_rf, mv]
theorem g_put (hK : KG K cc own nL d cN sN) (hI : KI K) {index ci k o : Nat} {ty : FieldType} {fin : Bool} {G' : SG} {v : Value} (hf : zFL own index ci k ty fin) (hw2 : fin = true → ∀ C T N, vwCl[ci]? = some (C, T, N) → (T k).1 = own) (hd : decode cc pc = .ok (.putfield index, 3)) (ho : zk o = ci) (hon : o < n) (hoff : ∀ q, q ≠ o → G'.1 q = G.1 q ∧ G'.2 q = G.2 q) (hne : ∀ j, j ≠ k → G'.1 o j = G.1 o j ∧ G'.2 o j = G.2 o j) (hok : okG G n → okG G' n) (hv : ∀ ad, zvG ad G' o k = mv ad v) (hn : ∀ ad, narrow ty (mv ad v) = mv ad v) (hfit : ∀ ad, fits ty (mv ad v) = true) (kk : JG K (pc + 3) L st n G' nc ns) : JG K pc L (v :: .ref o :: st) n G nc ns := by
  obtain ⟨⟨p, l, e, R, s⟩, ⟨m, args, below, meth, c⟩, ⟨D, cy⟩, ⟨n0, ad0⟩, A, Q⟩ := K
  obtain ⟨hx, hb, hown, hml, hR, hts, hKK, hA, hAO⟩ := hK
  intro hG hn0 ad H locs ls had hP hD hS hl'
  obtain ⟨C, T, N, ⟨hc, hN, hci, hin, ⟨ty0, hty⟩, hnm⟩, hk, hw, hty1, hfin⟩ := hf
  have fin1 : ∀ (H1 : Heap) (locs1 : List Loc), va_P D vwCl ((zwG ad cy n G).set o (ad o, .inr (ci, ((List.range (zn ci)).map (zvG ad G o)).set k (mv ad v)))) H1 → va_D A ((zwG ad cy n G).set o (ad o, .inr (ci, ((List.range (zn ci)).map (zvG ad G o)).set k (mv ad v)))) → va_S A s.heap H1 locs1 → W p l e R s m args below meth c H1 locs1 nc ns Q (F0 m (pc + 3) ls (st.map (mv ad))) := by
    intro H1 locs1 hP1 hD1 hS1
    rw [zwG_set (G := G) (G' := G') hon (by rw [zcG_put ho hci hne, hv]) (fun q hq => zcG_off (hoff q hq).1 (hoff q hq).2)] at hP1 hD1
    exact kk (hok hG) hn0 ad H1 locs1 ls had hP1 hD1 hS1 hl'
  cases fin with
  | false => exact va_put (D := D) (ty := ty) hx hb hts hin ty0 hty hnm hown hKK hP hD hS o (by rw [zwG_get hon, zcG_obj ho hci]) hc k hk (hts _ hw) (fun _ h => h) hfin hty1 (hn ad) (hfit ad) (by simp only [List.length_map, List.length_range]; rw [← hN]; exact hk) hd fin1
  | true => exact va_putF (D := D) (ty := ty) hx hb hts hin ty0 hty hnm hown hKK hP hD hS o (by rw [zwG_get hon, zcG_obj ho hci]) hc k hk (hts _ hw) (fun _ h => h) hfin hI.1 (hw2 rfl C T N hc) hty1 (hn ad) (hfit ad) (by simp only [List.length_map, List.length_range]; rw [← hN]; exact hk) hd fin1
theorem g_putI (hK : KG K cc own nL d cN sN) (hI : KI K) {index ci k o : Nat} {x : Int32} {ty : FieldType} (hf : zFL own index ci k ty false) (hd : decode cc pc = .ok (.putfield index, 3)) (ho : zk o = ci) (hon : o < n) (hz : zf ci k = 0) (hn : narrow ty (.int x) = .int x) (hfit : fits ty (.int x) = true) (kk : JG K (pc + 3) L st n (pI G o k x) nc ns) : JG K pc L (.int x :: .ref o :: st) n G nc ns :=
  g_put (G' := pI G o k x) hK hI hf (fun h => by cases h) hd ho hon (fun q hq => ⟨by funext b; simp [pI, hq], rfl⟩) (fun j hj => ⟨by simp [pI, hj], rfl⟩) (fun h => okG_pI h hon) (fun ad => by simp [zvG, ho, hz, pI, mv]) (fun _ => hn) (fun _ => hfit) kk
theorem g_putR (hK : KG K cc own nL d cN sN) (hI : KI K) {index ci k o r : Nat} {ty : FieldType} {fin : Bool} (hf : zFL own index ci k ty fin) (hw2 : fin = true → ∀ C T N, vwCl[ci]? = some (C, T, N) → (T k).1 = own) (hd : decode cc pc = .ok (.putfield index, 3)) (ho : zk o = ci) (hon : o < n) (hrn : r < n) (hz : zf ci k ≠ 0) (hn : ∀ a, narrow ty (.ref a) = .ref a) (hfit : ∀ a, fits ty (.ref a) = true) (kk : JG K (pc + 3) L st n (pR G o k r) nc ns) : JG K pc L (.ref r :: .ref o :: st) n G nc ns :=
  g_put (G' := pR G o k r) hK hI hf hw2 hd ho hon (fun q hq => ⟨rfl, by funext b; simp [pR, hq]⟩) (fun j hj => ⟨rfl, by simp [pR, hj]⟩) (fun h => okG_pR h hon hrn) (fun ad => by simp [zvG, ho, hz, pR, mv, va_rf]) (fun _ => hn _) (fun _ => hfit _) kk
theorem g_aast (hK : KG K cc own nL d cN sN) {o r i' : Nat} {i : Int32} {N1 : Nat} (hd : decode cc pc = .ok (.aastore, 1)) (ho : zk o = 16) (hon : o < n) (hlen : zl o = N1) (hr : zk r = 7) (hrn : r < n) (hin : inb i N1) (hi' : i.toNatClampNeg = i') (kk : JG K (pc + 1) L st n (pR G o i' r) nc ns) : JG K pc L (.ref r :: .int i :: .ref o :: st) n G nc ns := by
  obtain ⟨⟨p, l, e, R, s⟩, ⟨m, args, below, meth, c⟩, ⟨D, cy⟩, ⟨n0, ad0⟩, A, Q⟩ := K
  obtain ⟨hx, hb, hown, hml, hR, hts, hKK, hA, hAO⟩ := hK
  intro hG hn0 ad H locs ls had hP hD hS hl'
  subst hi'
  have hcell : zcG ad cy G o = .inl (cy 16, N1, .inr (.inr (.inr (.inr (fun j => (G.2 o j).map ad))))) := by simp [zcG, ho, hlen]
  refine va_astq (D := D) hx hb hKK hP hD hS o 4 r 7 (v := ad r) (f := fun j => (G.2 o j).map ad) (r := (RX7, TX7, 6)) (by rw [zwG_get hon, hcell]) rfl (by rw [zwG_get hrn, zcG_obj hr (by decide)]) rfl hin hd (fun H1 locs1 hP1 hD1 hS1 => ?_)
  have e : zcG ad cy (pR G o i.toNatClampNeg r) o = .inl (cy 16, N1, .inr (.inr (.inr (.inr (va_up (fun j => (G.2 o j).map ad) i.toNatClampNeg (some (ad r))))))) := by
    have e0 : (fun j => ((pR G o i.toNatClampNeg r).2 o j).map ad) = va_up (fun j => (G.2 o j).map ad) i.toNatClampNeg (some (ad r)) := by
      funext j
      by_cases hj : j = i.toNatClampNeg <;> simp [pR, va_up, hj]
    rw [← e0]
    simp [zcG, ho, hlen]
  rw [zwG_set (G := G) (G' := pR G o i.toNatClampNeg r) hon e (fun q hq => zcG_off rfl (by funext b; simp [pR, hq]))] at hP1 hD1
  exact kk (okG_pR hG hon hrn) hn0 ad H1 locs1 ls had hP1 hD1 hS1 hl'
theorem g_new (hK : KG K cc own nL d cN sN) {index ci : Nat} {C : String} {T : u_T} {N : Nat} (hcl : zCL ci C T N) (w1 : Cond.classLink own index C ∈ zT) (w2 : Cond.instantiable C N ∈ zT) (w3 : Cond.initialized C ∈ zT) (hd : decode cc pc = .ok (.new index, 3)) (hk : zk n = ci) (hfs : ∀ ty0 : Nat → FieldType, (∀ k, k < N → parseFieldDescriptor (T k).2.2.1 = some (ty0 k)) → ∀ j, j < N → defaultValue (ty0 j) = if zf ci j = 0 then .int 0 else .null) (hn2 : n < 1000) (hL : ∀ q ∈ L, okV n q.2) (hst : ∀ v ∈ st, okV n v) (hc : nc + 1 ≤ cN) (hs : ns + N ≤ sN) (kk : JG K (pc + 3) L (.ref n :: st) (n + 1) G (nc + 1) (ns + N)) : JG K pc L st n G nc ns := by
  obtain ⟨⟨p, l, e, R, s⟩, ⟨m, args, below, meth, c⟩, ⟨D, cy⟩, ⟨n0, ad0⟩, A, Q⟩ := K
  obtain ⟨hx, hb, hown, hml, hR, hts, hKK, hA, hAO⟩ := hK
  intro hG hn0 ad H locs ls had hP hD hS hl'
  obtain ⟨hvc, hN, hci, hin, ⟨ty0, hty⟩, hnm⟩ := hcl
  refine va_new (D := D) (fs := (List.range (zn ci)).map (zvG ad G n)) hx hb hts hin ty0 hty hown (hts _ w1) (hts _ w2) (hts _ w3) hKK hP hD hS hA hvc (fun j hj => ?_) (by omega) (by omega) hd (fun q H1 hP1 hD1 hS1 => ?_)
  · rw [hfs ty0 hty j hj]
    show _ = ((List.range (zn ci)).map (zvG ad G n)).getD j .null
    rw [List.getD_eq_getElem?_getD, zfG_at (by rw [← hN]; exact hj)]
    have h0 := hG.1 n j (Nat.le_refl n)
    by_cases hz : zf ci j = 0 <;> simp [zvG, hk, hz, h0, va_rf]
  · rw [zwG_push hG (zcG_obj hk hci)] at hP1 hD1
    have k2 := kk (okG_new hG) (Nat.le_succ_of_le hn0) (va_up ad n q) H1 locs ls (fun o ho => by rw [← had o ho]; simp [va_up, show o ≠ n by omega]) hP1 hD1 hS1 (by rw [mLs_up hn2 hL]; exact hl')
    rw [List.map_cons, mvs_up hn2 hst] at k2
    have e : mv (va_up ad n q) (.ref n) = .ref q := by simp [mv, va_up]
    rw [e] at k2
    exact k2
theorem g_newa (hK : KG K cc own nL d cN sN) {atype : ArrayType} {ty : FieldType} {ki t0 : Nat} {x : Int32} {N : Nat} (w1 : Cond.arrayClass (newarray.typeOf atype) ∈ zT) (hty : newarray.typeOf atype = ty) (hd : decode cc pc = .ok (.newarray atype, 2)) (hk : zk n = ki) (hlen : zl n = N) (hx0 : ¬ x < 0) (hxN : x.toNatClampNeg = N) (hbytes : N * componentBytes ty ≤ 536870912) (ht : ∀ cy : Nat → ClassId, (zty cy)[t0]? = some (cy ki, ty)) (hra : ∀ (U : State) (a b : ClassId), va_RA U a ty → va_RA U b ty → a = b) (a0 : vp_A) (hcell : ∀ (ad : Nat → Nat) (cy : Nat → ClassId), zcG ad cy G n = .inl (cy ki, a0)) (ha : ∀ cA : ClassId, vp_cell cA a0 = arrV cA N (fun _ => defaultValue ty)) (hn2 : n < 1000) (hL : ∀ q ∈ L, okV n q.2) (hst : ∀ v ∈ st, okV n v) (hc : nc + 1 ≤ cN) (hs : ns + N ≤ sN) (kk : JG K (pc + 2) L (.ref n :: st) (n + 1) G (nc + 1) (ns + N)) : JG K pc L (.int x :: st) n G nc ns := by
  obtain ⟨⟨p, l, e, R, s⟩, ⟨m, args, below, meth, c⟩, ⟨D, cy⟩, ⟨n0, ad0⟩, A, Q⟩ := K
  obtain ⟨hx, hb, hown, hml, hR, hts, hKK, hA, hAO⟩ := hK
  intro hG hn0 ad H locs ls had hP hD hS hl'
  refine va_newa (D := D) (a0 := a0) hx hb (hts _ w1) hty hKK hP hD hS hA ha hx0 hxN hbytes (by omega) (by omega) hd (fun q cA H1 hK1 hP1 hD1 hS1 => ?_)
  have e1 : cA = cy ki := by
    have h1 := (hKK.2 t0 _ (ht cy)).2
    have h2 := (hK1.2 (zty cy).length (cA, ty) (by simp)).2
    exact hra s cA (cy ki) h2 h1
  subst e1
  rw [zwG_push hG (hcell ad cy)] at hP1 hD1
  have k2 := kk (okG_new hG) (Nat.le_succ_of_le hn0) (va_up ad n q) H1 locs ls (fun o ho => by rw [← had o ho]; simp [va_up, show o ≠ n by omega]) hP1 hD1 hS1 (by rw [mLs_up hn2 hL]; exact hl')
  rw [List.map_cons, mvs_up hn2 hst] at k2
  have e : mv (va_up ad n q) (.ref n) = .ref q := by simp [mv, va_up]
  rw [e] at k2
  exact k2
theorem g_anew (hK : KG K cc own nL d cN sN) {index : Nat} {x : Int32} {N : Nat} (w1 : Cond.classLink own index "CaveAdvice$State" ∈ zT) (hd : decode cc pc = .ok (.anewarray index, 3)) (hk : zk n = 16) (hlen : zl n = N) (hx0 : ¬ x < 0) (hxN : x.toNatClampNeg = N) (hbytes : N * 4 ≤ 536870912) (hn2 : n < 1000) (hL : ∀ q ∈ L, okV n q.2) (hst : ∀ v ∈ st, okV n v) (hc : nc + 1 ≤ cN) (hs : ns + N ≤ sN) (kk : JG K (pc + 3) L (.ref n :: st) (n + 1) G (nc + 1) (ns + N)) : JG K pc L (.int x :: st) n G nc ns := by
  obtain ⟨⟨p, l, e, R, s⟩, ⟨m, args, below, meth, c⟩, ⟨D, cy⟩, ⟨n0, ad0⟩, A, Q⟩ := K
  obtain ⟨hx, hb, hown, hml, hR, hts, hKK, hA, hAO⟩ := hK
  intro hG hn0 ad H locs ls had hP hD hS hl'
  refine va_newq (D := D) hx hb hown (hts _ w1) hAO hKK hP hD hS hA hx0 hxN hbytes (by omega) (by omega) hd (fun q cA H1 hK1 hP1 hD1 hS1 => ?_)
  have e1 : cA = cy 16 := by
    have h1 := (hKK.2 4 (cy 16, .object "CaveAdvice$State") rfl).2
    have h2 := (hK1.2 (zty cy).length (cA, .object "CaveAdvice$State") (by simp)).2
    obtain ⟨kA, comp, -, -, -, f1⟩ := h1
    obtain ⟨kB, comp2, -, -, -, f2⟩ := h2
    exact Option.some.inj (f2.symm.trans f1)
  subst e1
  have hcell : zcG ad cy G n = .inl (cy 16, N, .inr (.inr (.inr (.inr (fun _ => none))))) := by
    simp only [zcG, hk, hlen]
    have e0 : (fun j => (G.2 n j).map ad) = fun _ => none := by
      funext j
      rw [(hG.1 n j (Nat.le_refl n)).2]; rfl
    rw [e0]; rfl
  rw [zwG_push hG hcell] at hP1 hD1
  have k2 := kk (okG_new hG) (Nat.le_succ_of_le hn0) (va_up ad n q) H1 locs ls (fun o ho => by rw [← had o ho]; simp [va_up, show o ≠ n by omega]) hP1 hD1 hS1 (by rw [mLs_up hn2 hL]; exact hl')
  rw [List.map_cons, mvs_up hn2 hst] at k2
  have e : mv (va_up ad n q) (.ref n) = .ref q := by simp [mv, va_up]
  rw [e] at k2
  exact k2
theorem g_obj (hK : KG K cc own nL d cN sN) {index o : Nat} (w1 : Cond.methodLink own index Lib.objectInit ∈ zT) (hd : decode cc pc = .ok (.invokespecial index, 3)) (hdd : 0 < d) (hw : (st.map fun v => v.category).sum ≤ 8) (kk : JG K (pc + 3) L st n G nc ns) : JG K pc L (.ref o :: st) n G nc ns := by
  obtain ⟨⟨p, l, e, R, s⟩, ⟨m, args, below, meth, c⟩, ⟨D, cy⟩, ⟨n0, ad0⟩, A, Q⟩ := K
  obtain ⟨hx, hb, hown, hml, hR, hts, hKK, hA, hAO⟩ := hK
  intro hG hn0 ad H locs ls had hP hD hS hl'
  exact W.objInit hx hb hown (hts _ w1) (hts _ zob_i) (hts _ zob_c) rfl hl'.1 rfl hd (Nat.le_trans hdd hR.1) (by show 2 * 0 + _ + 12 ≤ R.locals; rw [zcat]; omega) (kk hG hn0 ad H locs ls had hP hD hS hl')
theorem g_astore_n (hK : KG K cc own nL d cN sN) {f : Fin 4} {i : Nat} {x : Nat} (hd : decode cc pc = .ok (.astore_n f, 1)) (hi : (f : Nat) = i) (hn : i < nL) (hl : (i, Value.ref x) :: L.filter (fun q => !(q.1 == i) && !(q.1 + 1 == i && q.2.category == 2)) = L') (kk : JG K (pc + 1) L' st n G nc ns) : JG K pc L (.ref x :: st) n G nc ns := by
  obtain ⟨⟨p, l, e, R, s⟩, ⟨m, args, below, meth, c⟩, ⟨D, cy⟩, ⟨n0, ad0⟩, A, Q⟩ := K
  obtain ⟨hx, hb, hown, hml, hR, hts, hKK, hA, hAO⟩ := hK
  intro hG hn0 ad H locs ls had hP hD hS hl'
  exact lv_astore_n hx hb hd hi hl' (by rw [hml]; exact hn) (mL_f1 ad _ _ hl) (fun ls' h => kk hG hn0 ad H locs ls' had hP hD hS h)
theorem g_istore (hK : KG K cc own nL d cN sN) {i : Nat} {x : Int32} (hd : decode cc pc = .ok (.istore i, 2)) (hn : i < nL) (hl : (i, Value.int x) :: L.filter (fun q => !(q.1 == i) && !(q.1 + 1 == i && q.2.category == 2)) = L') (kk : JG K (pc + 2) L' st n G nc ns) : JG K pc L (.int x :: st) n G nc ns := by
  obtain ⟨⟨p, l, e, R, s⟩, ⟨m, args, below, meth, c⟩, ⟨D, cy⟩, ⟨n0, ad0⟩, A, Q⟩ := K
  obtain ⟨hx, hb, hown, hml, hR, hts, hKK, hA, hAO⟩ := hK
  intro hG hn0 ad H locs ls had hP hD hS hl'
  exact lv_istore hx hb hd hl' (by rw [hml]; exact hn) (mL_f1 ad _ _ hl) (fun ls' h => kk hG hn0 ad H locs ls' had hP hD hS h)
end JGR
