/-! questions over echoes -/
def CX (T : St) (c : Cv) (o : Nat) (r : Rl) : Prop := CC T c ∧ RuC T o r.1 r.2 ∧ gI T 0 8 = nI o
def MX (T : St) (c : Cv) (r : Rl) : Prop := CM T 126 c ∧ RuM T r.1 r.2
theorem RelP.x {S : St} (h : RelP S) : ∃ c o r, Cok c ∧ CX S c o r ∧ MX S c r := by
  obtain ⟨c, ok, h1, h2⟩ := h.cv
  obtain ⟨r, z, q1, q2, q3, q4, q5, q6, k, q7, q8⟩ := h.2.2.2.2.2.2
  exact ⟨c, r, (z, k), ok, ⟨h1, ⟨q1, q2, q5, fun i hi => (q7 i hi).2, q8⟩, q3⟩, h2, ⟨q2, q6, fun i hi => (q7 i hi).1, q8⟩⟩
theorem CX.q {S T : St} {c : Cv} {o : Nat} {r : Rl} (h : CX S c o r) (q : QC S T) : CX T c o r := by
  obtain ⟨h1, ⟨b1, b2, b3, b4, b5⟩, h3⟩ := h
  refine ⟨h1.q q, ⟨b1, b2, ?_, fun i hi => ?_, b5⟩, (q.1 0 8 rfl).trans h3⟩
  · rw [q.1 o 1 (by rcases b1 with e | e <;> rw [e] <;> rfl)]; exact b3
  · rw [q.1 (o + 1) i (by rcases b1 with e | e <;> rw [e] <;> rfl)]; exact b4 i hi
theorem MX.q {S T : St} {c : Cv} {r : Rl} (h : MX S c r) (q : QM S T) : MX T c r := by
  obtain ⟨h1, b2, b3, b4, b5⟩ := h
  refine ⟨h1.q q, b2, (q.1 122 18 rfl).trans b3, fun i hi => ?_, b5⟩
  rw [q.1 130 i rfl]; exact b4 i hi
theorem MX.c {S T : St} {c : Cv} {r : Rl} (h : MX S c r) (q : QC S T) : MX T c r := by
  obtain ⟨h1, b2, b3, b4, b5⟩ := h
  refine ⟨h1.c q, b2, (q.1 122 18 rfl).trans b3, fun i hi => ?_, b5⟩
  rw [q.1 130 i rfl]; exact b4 i hi
theorem oJ.q {T T' : St} (h : oJ T T') : QC T T' := by
  refine ⟨fun a b hab => h.1 a b ?_, fun a b _ => h.2 a b rfl⟩
  have e1 : a ≠ 113 := by intro e; subst e; cases hab
  have e2 : a ≠ 114 := by intro e; subst e; cases hab
  have e3 : a ≠ 118 := by intro e; subst e; cases hab
  have e4 : a ≠ 119 := by intro e; subst e; cases hab
  have e5 : a ≠ 120 := by intro e; subst e; cases hab
  simp [e1, e2, e3, e4, e5]
theorem oN.q {T T' : St} (h : oN T T') : QM T T' := by
  refine ⟨fun a b hab => h.1 a b ?_, fun a b _ => h.2 a b rfl⟩
  have e1 : a ≠ 132 := by intro e; subst e; cases hab
  have e2 : a ≠ 133 := by intro e; subst e; cases hab
  have e3 : a ≠ 144 := by intro e; subst e; cases hab
  simp [e1, e2, e3]
theorem RwC.o {T T' : St} {l : List Int64} (h : RwC T l) (q : oJ T T') : RwC T' l := ⟨(q.1 10 1 rfl).trans h.1, fun i hi => (q.2 11 i rfl).trans (h.2 i hi)⟩
theorem RwM.o {T T' : St} {l : List Int64} (h : RwM T l) (q : oN T T') : RwM T' l := ⟨(q.1 122 1 rfl).trans h.1, fun i hi => (q.2 123 i rfl).trans (h.2 i hi)⟩
theorem RwC.e {T T' : St} {l : List Int64} (h : RwC T l) (q : offE T T') : RwC T' l := ⟨(q.1 10 1 (by omega) (by omega) (by omega)).trans h.1, fun i hi => (q.2 11 i).trans (h.2 i hi)⟩
theorem RwM.e {T T' : St} {l : List Int64} (h : RwM T l) (q : offM T T') : RwM T' l := ⟨(q.1 122 1 (by omega) (by omega) (by omega)).trans h.1, fun i hi => (q.2 123 i).trans (h.2 i hi)⟩
theorem ECs.p {T T' : St} {c : Cv} {l : Pth} {x : Nat} (h : ECs c T l x) (q : ∀ a b, a ≠ 10 → gI T' a b = gI T a b) : ECs c T' l x := by
  obtain ⟨h1, h2, h3, h4⟩ := h
  refine ⟨(q _ _ (by omega)).trans h1, (q _ _ (by omega)).trans h2, (q _ _ (by omega)).trans h3, fun i hi => ?_⟩
  rw [q 93 i (by omega), q 94 i (by omega)]
  exact h4 i hi
theorem EMs.p {T T' : St} {c : Cv} {l : Pth} {x : Nat} (h : EMs c T l x) (q : ∀ a b, (a ≠ 122 ∨ b ≠ 1) → gI T' a b = gI T a b) : EMs c T' l x := by
  obtain ⟨h1, h2, h3, h4⟩ := h
  refine ⟨(q _ _ (by omega)).trans h1, (q _ _ (by omega)).trans h2, (q _ _ (by omega)).trans h3, fun i hi => ?_⟩
  rw [q 134 i (by omega), q 135 i (by omega)]
  exact h4 i hi
/-- how a side of a question ends -/
def AC (w : Option (Int32 × St)) (S : St) (r : Int32) (vs : Option (List Int64)) : Prop := ∃ S1, w = some (r, S1) ∧ QC S S1 ∧ (∀ l, vs = some l → RwC S1 l) ∧ (vs = none → gI S1 10 1 = gI S 10 1 ∧ ∀ k, gL S1 11 k = gL S 11 k)
def AM (w : Option (Int32 × St)) (S : St) (r : Int32) (vs : Option (List Int64)) : Prop := ∃ S1, w = some (r, S1) ∧ QM S S1 ∧ (∀ l, vs = some l → RwM S1 l) ∧ (vs = none → gI S1 122 1 = gI S 122 1 ∧ ∀ k, gL S1 123 k = gL S 123 k)
theorem AC.y {w : Option (Int32 × St)} {S S1 : St} {r : Int32} {l : List Int64} (e : w = some (r, S1)) (q : QC S S1) (h : RwC S1 l) : AC w S r (some l) := ⟨S1, e, q, fun _ e => by cases e; exact h, fun e => by cases e⟩
theorem AM.y {w : Option (Int32 × St)} {S S1 : St} {r : Int32} {l : List Int64} (e : w = some (r, S1)) (q : QM S S1) (h : RwM S1 l) : AM w S r (some l) := ⟨S1, e, q, fun _ e => by cases e; exact h, fun e => by cases e⟩
theorem AC.n {w : Option (Int32 × St)} {S S1 : St} {r : Int32} (e : w = some (r, S1)) (q : QC S S1) (h : gI S1 10 1 = gI S 10 1 := by rfl) (h2 : ∀ k, gL S1 11 k = gL S 11 k := by intro k; rfl) : AC w S r none := ⟨S1, e, q, fun _ e => (by cases e), fun _ => ⟨h, h2⟩⟩
theorem AM.n {w : Option (Int32 × St)} {S S1 : St} {r : Int32} (e : w = some (r, S1)) (q : QM S S1) (h : gI S1 122 1 = gI S 122 1 := by rfl) (h2 : ∀ k, gL S1 123 k = gL S 123 k := by intro k; rfl) : AM w S r none := ⟨S1, e, q, fun _ e => (by cases e), fun _ => ⟨h, h2⟩⟩
theorem qr {f g : St → Option (Int32 × St)} (h : ∀ S c o r, RelP S → Cok c → CX S c o r → MX S c r → ∃ (v : Int32) (vs : Option (List Int64)), (∀ l, vs = some l → l.length ≤ 16) ∧ AC (f S) S v vs ∧ ∀ S1, MX S1 c r → QC S S1 → AM (g S1) S1 v vs) : EQ1 RelP f g := by
  apply qry
  intro S hS
  obtain ⟨c, o, r, ok, hC, hM⟩ := hS.x
  obtain ⟨v, vs, h1, ⟨S1, a1, a2, a3, a4⟩, h3⟩ := h S c o r hS ok hC hM
  refine ⟨v, vs, h1, ⟨v, S1, a1, rfl, a2, a3, a4⟩, fun S1 q1 => ?_⟩
  obtain ⟨S2, b1, b2, b3, b4⟩ := h3 S1 (hM.c q1) q1
  exact ⟨v, S2, b1, rfl, b2, b3, b4⟩
/-! pure loops -/
def itN {α : Type} (f : Nat → α → α) (a : α) : Nat → α
  | 0 => a
  | i + 1 => f i (itN f a i)
/-- does an echo go -/
def echB (c : Cv) (st q : Nat) : Bool := (co c).testBit q && endB c (nI st) q
theorem ech_b {c : Cv} (ok : Cok c) {st q : Nat} (hst : st ≤ 7) (hq : q < cm c) : (echB c st q = true ∧ (co c).testBit q = true ∧ endN c st q) ∨ (echB c st q = false ∧ ¬ echP c (nI st) (nI q)) := by
  have h12 := ok12 ok
  unfold echB endB
  cases g1 : (co c).testBit q with
  | false =>
    refine Or.inr ⟨rfl, ?_⟩
    rintro ⟨q', st', h1, h2, h3, h4, h5, h6⟩
    rw [nEq (by omega) (by omega)] at h3
    subst h3
    rw [g1] at h5; cases h5
  | true =>
    by_cases g2 : nI (ca c q) = nI st ∨ nI (cb c q) = nI st
    · refine Or.inl ⟨by rw [decide_eq_true g2]; rfl, rfl, ?_⟩
      rw [← endB_n ok hq hst]; exact g2
    · refine Or.inr ⟨by rw [decide_eq_false g2]; rfl, ?_⟩
      rintro ⟨q', st', h1, h2, h3, h4, h5, h6⟩
      rw [nEq (by omega) (by omega)] at h3 h4
      subst h3; subst h4
      rw [← endB_n ok hq hst] at h6
      exact g2 h6
theorem offE.rf (T : St) : offE T T := ⟨fun _ _ _ _ _ => rfl, fun _ _ => rfl⟩
theorem offM.rf (T : St) : offM T T := ⟨fun _ _ _ _ _ => rfl, fun _ _ => rfl⟩
theorem goes_b {T : St} {c : Cv} (ok : Cok c) (h : CC T c) {st q : Nat} (hst : st ≤ 7) (hq : q < cm c) : ∃ T', f_X2_goes (nI st) (nI q) T = some (flI (echB c st q), T') ∧ offE T T' ∧ (echB c st q = true → ECs c T' (pth c st q) (pen c st q)) := by
  rcases ech_b ok hst hq with ⟨e, h1, h2⟩ | ⟨e, h1⟩
  · obtain ⟨T', g1, g2, g3⟩ := goes_y ok h hst hq h1 h2
    exact ⟨T', by rw [e]; exact g1, g2, fun _ => g3⟩
  · exact ⟨T, by rw [e]; exact goes_n ok h h1, offE.rf T, fun e' => by rw [e] at e'; cases e'⟩
theorem isE_b {T : St} {c : Cv} {ar : Nat} (ok : Cok c) (h : CM T ar c) {st q : Nat} (hst : st ≤ 7) (hq : q < cm c) : f_X11_isEcho ar (nI st) (nI q) T = some (flI (echB c st q), T) := by
  rcases ech_b ok hst hq with ⟨e, h1, h2⟩ | ⟨e, h1⟩
  · rw [e]; exact isE_y ok h hst hq h1 h2
  · rw [e]; exact isE_n ok h h1
theorem echB_o {c : Cv} {st q : Nat} (h : echB c st q = true) : (co c).testBit q = true := by
  unfold echB at h; simp at h; exact h.1
theorem pth_ok {c : Cv} (ok : Cok c) {st q : Nat} (hst : st ≤ 7) (hq : q < cm c) : Pok c (pth c st q) := ⟨(ecN_ok ok 12 (co c) q st hq hst).1, (ecN_ok ok 12 (co c) q st hq hst).2.1⟩
theorem pen_ok {c : Cv} (ok : Cok c) {st q : Nat} (hst : st ≤ 7) (hq : q < cm c) : pen c st q ≤ 7 := (ecN_ok ok 12 (co c) q st hq hst).2.2.1
theorem sum_ok {c : Cv} (ok : Cok c) {st q : Nat} (hst : st ≤ 7) (hq : q < cm c) : sumD c (pth c st q) ≤ 108 := (ecN_ok ok 12 (co c) q st hq hst).2.2.2
theorem mp_s {α : Type} (g : Nat × Bool → α) (l : Pth) {i : Nat} (h : i < l.length) : (l.take (i + 1)).map g = (l.take i).map g ++ [g (l.getD i (0, false))] := by
  rw [List.take_add_one, List.getElem?_eq_getElem h, List.map_append]
  simp only [List.getD, List.getElem?_eq_getElem h, Option.toList, Option.getD, List.map]
theorem flI_t : flI true = nI 1 := rfl
theorem flI_f : flI false = nI 0 := rfl
/-! route -/
def rowR (c : Cv) (l : Pth) : List Int64 := (nI (sumD c l)).toInt64 :: l.map (fun p => (nI p.1).toInt64)
theorem rt_c {T : St} {c : Cv} {l : Pth} {x : Nat} {m : Int64} (hE : ECs c T l x) (hl : Pok c l) (hw : RwC T [m]) (nn : Nat) (hnn : 13 < nn) : ∃ S2, lp (f_X10_route_38b (fun v14 S15 => some ((gI S15 92 5), S15))) nn 0 T = some (nI x, S2) ∧ QC T S2 ∧ RwC S2 (m :: l.map (fun p => (nI p.1).toInt64)) := by
  have hl1 := hl.1
  have h := lp_ex (body := f_X10_route_38b (fun v14 S15 => some ((gI S15 92 5), S15))) (Q := fun w => ∃ S2, w = some (nI x, S2) ∧ QC T S2 ∧ RwC S2 (m :: l.map (fun p => (nI p.1).toInt64))) l.length (fun i v S => v = nI i ∧ QC T S ∧ RwC S (m :: (l.take i).map (fun p => (nI p.1).toInt64)) ∧ ∀ a b, a ≠ 10 → gI S a b = gI T a b) (fun i k v S hi hI => ?_) (fun k v S hI => ?_) nn 0 0 T (by omega) (by omega) ⟨rfl, Sm.rf T, (by rw [List.take_zero]; exact hw), fun _ _ _ => rfl⟩
  · exact h
  · obtain ⟨rfl, q, w, p⟩ := hI
    have hE' := hE.p p
    obtain ⟨S', s1, s2, s3, s4⟩ := put_e (nI (l.getD i (0, false)).1).toInt64 w (by simp only [List.length_cons, List.length_map, List.length_take]; omega)
    refine ⟨nI (i + 1), S', ?_, rfl, q.tr s2, ?_, fun a b hab => (s4 a b hab).trans (p a b hab)⟩
    · unfold f_X10_route_38b
      rw [hE'.1, if_neg (by rw [nLe (by omega) (by omega)]; omega), if_pos (by rw [inb_nI (by omega)]; omega), nI_t (by omega), (hE'.2.2.2 i hi).1, s1, bd_e, a1]
    · rw [mp_s _ l hi]; exact s3
  · obtain ⟨rfl, q, w, p⟩ := hI
    have hE' := hE.p p
    unfold f_X10_route_38b
    rw [hE'.1, if_pos (by rw [nLe (by omega) (by omega)]; omega)]
    dsimp only
    rw [hE'.2.2.1]
    rw [List.take_length] at w
    exact ⟨S, rfl, q, w⟩
theorem rt_m {T : St} {c : Cv} {l : Pth} {x : Nat} {m : Int64} (hE : EMs c T l x) (hl : Pok c l) (hw : RwM T [m]) (nn : Nat) (hnn : 13 < nn) : ∃ S2, lp (f_X11_route_46b (fun v14 S15 => some ((gI S15 122 25), S15))) nn 0 T = some (nI x, S2) ∧ QM T S2 ∧ RwM S2 (m :: l.map (fun p => (nI p.1).toInt64)) := by
  have hl1 := hl.1
  have h := lp_ex (body := f_X11_route_46b (fun v14 S15 => some ((gI S15 122 25), S15))) (Q := fun w => ∃ S2, w = some (nI x, S2) ∧ QM T S2 ∧ RwM S2 (m :: l.map (fun p => (nI p.1).toInt64))) l.length (fun i v S => v = nI i ∧ QM T S ∧ RwM S (m :: (l.take i).map (fun p => (nI p.1).toInt64)) ∧ ∀ a b, (a ≠ 122 ∨ b ≠ 1) → gI S a b = gI T a b) (fun i k v S hi hI => ?_) (fun k v S hI => ?_) nn 0 0 T (by omega) (by omega) ⟨rfl, Sm.rf T, (by rw [List.take_zero]; exact hw), fun _ _ _ => rfl⟩
  · exact h
  · obtain ⟨rfl, q, w, p⟩ := hI
    have hE' := hE.p p
    obtain ⟨S', s1, s2, s3, s4⟩ := ent_e (nI (l.getD i (0, false)).1).toInt64 w (by simp only [List.length_cons, List.length_map, List.length_take]; omega)
    refine ⟨nI (i + 1), S', ?_, rfl, q.tr s2, ?_, fun a b hab => (s4 a b hab).trans (p a b hab)⟩
    · unfold f_X11_route_46b
      rw [hE'.1, if_neg (by rw [nLe (by omega) (by omega)]; omega), if_pos (by rw [inb_nI (by omega)]; omega), nI_t (by omega), (hE'.2.2.2 i hi).1, s1, bd_e, a1]
    · rw [mp_s _ l hi]; exact s3
  · obtain ⟨rfl, q, w, p⟩ := hI
    have hE' := hE.p p
    unfold f_X11_route_46b
    rw [hE'.1, if_pos (by rw [nLe (by omega) (by omega)]; omega)]
    dsimp only
    rw [hE'.2.2.1]
    rw [List.take_length] at w
    exact ⟨S, rfl, q, w⟩
theorem z00 : nI 0 = (0 : Int32) := rfl
theorem q10 (S : St) (v : Int32) : QC S (sI S 10 1 v) := (Sm.rf S).sI rfl
theorem q01 (S : St) (v : Int32) : QM S (sI S 122 1 v) := (Sm.rf S).sI rfl
theorem q00 (S : St) (v : Int32) : QM S (sI S 122 0 v) := (Sm.rf S).sI rfl
theorem e10 {T : St} {v : Int32} (a b : Nat) (h : a ≠ 10) : gI (sI T 10 1 v) a b = gI T a b := by rw [gI_s, if_neg h]
theorem e01 {T : St} {v : Int32} (a b : Nat) (h : a ≠ 122 ∨ b ≠ 1) : gI (sI T 122 1 v) a b = gI T a b := by
  rw [gI_s]
  by_cases e : a = 122
  · rw [if_pos e, if_neg (by omega)]
  · rw [if_neg e]
theorem eq_route : ∀ a1 a2 : Int32, EQ1 RelP (f_X10_route a1 a2) (f_X11_route a1 a2) := by
  intro x y
  apply qr
  intro S c o r hS ok hC hM
  by_cases he : echP c x y
  · obtain ⟨q, st, hq, hst, rfl, rfl, ho, hen⟩ := he
    have hl := pth_ok ok hst hq
    have hl1 := hl.1
    refine ⟨nI (pen c st q), some (rowR c (pth c st q)), fun l e => ?_, ?_, fun S1 hM1 q1 => ?_⟩
    · cases e; unfold rowR; simp only [List.length_cons, List.length_map]; omega
    · obtain ⟨T1, g1, g2, g3⟩ := goes_y ok hC.1 hst hq ho hen
      obtain ⟨T2, s1, s2, s3, s4⟩ := put_e (nI (sumD c (pth c st q))).toInt64 (RwC.nil T1) (by simp)
      obtain ⟨T3, t1, t2, t3⟩ := rt_c ((g3.p e10).p s4) hl s3 FU (by unfold FU; omega)
      refine AC.y (S1 := T3) ?_ (((g2.q.tr (q10 T1 0)).tr s2).tr t2) t3
      unfold f_X10_route
      rw [g1, bd_e, if_neg (by decide), begin_e, bd_e, e10 92 4 (by omega), g3.2.1, s1, bd_e]
      exact t1
    · have hM0 := hM1.q (q00 S1 0)
      obtain ⟨T1, g1, g2, g3⟩ := lays_m ok hM0.1 (by omega) (by omega) (by omega) hst hq ho
      obtain ⟨T2, s1, s2, s3, s4⟩ := ent_e (nI (sumD c (pth c st q))).toInt64 (RwM.nil T1) (by simp)
      obtain ⟨T3, t1, t2, t3⟩ := rt_m ((g3.p e01).p s4) hl s3 FU (by unfold FU; omega)
      refine AM.y (S1 := T3) ?_ (((((q00 S1 0).tr g2.q).tr (q01 T1 0)).tr s2).tr t2) t3
      unfold f_X11_route
      rw [lt_e, isE_y ok hM0.1 hst hq ho hen, bd_e, if_neg (by decide), g1, bd_e, lt_e, e01 122 26 (by omega), g3.2.1, s1, bd_e]
      exact t1
  · refine ⟨-1, none, (fun l e => by cases e), ?_, fun S1 hM1 q1 => ?_⟩
    · refine AC.n (S1 := S) ?_ (Sm.rf S)
      unfold f_X10_route
      rw [goes_n ok hC.1 he, bd_e, if_pos z00]
    · refine AM.n (S1 := sI S1 122 0 0) ?_ (q00 S1 0)
      unfold f_X11_route
      rw [lt_e, isE_n ok (hM1.q (q00 S1 0)).1 he, bd_e, if_pos z00]
/-! rounds -/
def rdS (c : Cv) (st q : Nat) (a : Int32 × Int32 × Int32) : Int32 × Int32 × Int32 := if echB c st q = true then (if pen c st q = st then (a.1 ||| ((1 : Int32) <<< (nI st &&& 31)), a.2.1 + 1, a.2.2 + 1) else (a.1, a.2.1 + 1, a.2.2)) else a
theorem rdS_f {c : Cv} {st q : Nat} {a : Int32 × Int32 × Int32} (h : echB c st q = false) : rdS c st q a = a := by unfold rdS; rw [h]; rfl
theorem rdS_1 {c : Cv} {st q : Nat} {a : Int32 × Int32 × Int32} (h : echB c st q = true) (h2 : pen c st q = st) : rdS c st q a = (a.1 ||| ((1 : Int32) <<< (nI st &&& 31)), a.2.1 + 1, a.2.2 + 1) := by unfold rdS; rw [if_pos h, if_pos h2]
theorem rdS_2 {c : Cv} {st q : Nat} {a : Int32 × Int32 × Int32} (h : echB c st q = true) (h2 : ¬ pen c st q = st) : rdS c st q a = (a.1, a.2.1 + 1, a.2.2) := by unfold rdS; rw [if_pos h, if_neg h2]
theorem rd_c {T : St} {c : Cv} (ok : Cok c) (h : CC T c) {st : Nat} (hst : st ≤ 7) (a : Int32 × Int32 × Int32) (e : Int32 × Int32 × Int32 × Int32 → St → Option (Int32 × St)) : ∃ S2, lp (f_X10_rounds_19b (nI st) e) FU (a.1, a.2.1, a.2.2, 0) T = e ((itN (rdS c st) a (cm c)).1, (itN (rdS c st) a (cm c)).2.1, (itN (rdS c st) a (cm c)).2.2, nI (cm c)) S2 ∧ offE T S2 := by
  have h12 := ok12 ok
  refine lp_ex (body := f_X10_rounds_19b (nI st) e) (Q := fun w => ∃ S2, w = e ((itN (rdS c st) a (cm c)).1, (itN (rdS c st) a (cm c)).2.1, (itN (rdS c st) a (cm c)).2.2, nI (cm c)) S2 ∧ offE T S2) (cm c) (fun i v S => v = ((itN (rdS c st) a i).1, (itN (rdS c st) a i).2.1, (itN (rdS c st) a i).2.2, nI i) ∧ offE T S) (fun i k v S hi hI => ?_) (fun k v S hI => ?_) FU 0 _ T (by omega) (by unfold FU; omega) ⟨rfl, offE.rf T⟩
  · obtain ⟨rfl, q⟩ := hI
    have hC := h.q q.q
    obtain ⟨T', g1, g2, g3⟩ := goes_b ok hC hst hi
    refine ⟨_, T', ?_, rfl, q.tr g2⟩
    rw [itN]
    have hp := pen_ok ok hst hi
    unfold f_X10_rounds_19b f_X10_rounds_70
    simp only
    rw [hC.1, if_neg (by rw [nLe (by omega) (by omega)]; omega), g1, bd_e, a1]
    cases hb : echB c st i with
    | false => rw [rdS_f hb, if_pos (show flI false = 0 from rfl)]
    | true =>
      rw [flI_t, if_neg (show ¬ nI 1 = 0 by decide), (g3 hb).2.2.1]
      by_cases hp2 : pen c st i = st
      · rw [rdS_1 hb hp2, if_pos (by rw [hp2]), lt_e]
      · rw [rdS_2 hb hp2, if_neg (by rw [nEq (by omega) (by omega)]; exact hp2)]
  · obtain ⟨rfl, q⟩ := hI
    have hC := h.q q.q
    refine ⟨S, ?_, q⟩
    unfold f_X10_rounds_19b
    rw [hC.1, if_pos (by rw [nLe (by omega) (by omega)]; omega)]
theorem rd_m {T : St} {c : Cv} (ok : Cok c) (h : CM T 126 c) {st : Nat} (hst : st ≤ 7) (a : Int32 × Int32 × Int32) (e : Int32 × Int32 × Int32 × Int32 → St → Option (Int32 × St)) : ∃ S2, lp (f_X11_rounds_24b (nI st) e) FU (a.1, a.2.1, a.2.2, 0) T = e ((itN (rdS c st) a (cm c)).1, (itN (rdS c st) a (cm c)).2.1, (itN (rdS c st) a (cm c)).2.2, nI (cm c)) S2 ∧ offM T S2 := by
  have h12 := ok12 ok
  refine lp_ex (body := f_X11_rounds_24b (nI st) e) (Q := fun w => ∃ S2, w = e ((itN (rdS c st) a (cm c)).1, (itN (rdS c st) a (cm c)).2.1, (itN (rdS c st) a (cm c)).2.2, nI (cm c)) S2 ∧ offM T S2) (cm c) (fun i v S => v = ((itN (rdS c st) a i).1, (itN (rdS c st) a i).2.1, (itN (rdS c st) a i).2.2, nI i) ∧ offM T S) (fun i k v S hi hI => ?_) (fun k v S hI => ?_) FU 0 _ T (by omega) (by unfold FU; omega) ⟨rfl, offM.rf T⟩
  · obtain ⟨rfl, q⟩ := hI
    have hC := q.c h (by omega) (by omega) (by omega)
    cases hb : echB c st i with
    | false =>
      refine ⟨_, S, ?_, rfl, q⟩
      rw [itN]
      unfold f_X11_rounds_24b f_X11_rounds_103
      simp only
      rw [rdS_f hb, hC.1, if_neg (by rw [nLe (by omega) (by omega)]; omega), isE_b ok hC hst hi, bd_e, hb, if_pos (show flI false = 0 from rfl), a1]
    | true =>
      obtain ⟨T', g1, g2, g3⟩ := lays_m ok hC (by omega) (by omega) (by omega) hst hi (echB_o hb)
      refine ⟨_, T', ?_, rfl, q.tr g2⟩
      rw [itN]
      have hp := pen_ok ok hst hi
      unfold f_X11_rounds_24b f_X11_rounds_78 f_X11_rounds_101 f_X11_rounds_103
      simp only
      rw [hC.1, if_neg (by rw [nLe (by omega) (by omega)]; omega), isE_b ok hC hst hi, bd_e, hb, flI_t, if_neg (show ¬ nI 1 = 0 by decide), g1, bd_e, g3.2.2.1]
      by_cases hp2 : pen c st i = st
      · rw [rdS_1 hb hp2, if_pos (by rw [hp2]), show f_X11_flag 1 T' = some (1, T') from rfl, bd_e, lt_e, if_pos (by rw [g3.2.2.1, hp2]), lt_e, a1]
      · rw [if_neg (by rw [nEq (by omega) (by omega)]; exact hp2), rdS_2 hb hp2, show f_X11_flag 0 T' = some (0, T') from rfl, bd_e, lt_e, if_neg (by rw [g3.2.2.1, nEq (by omega) (by omega)]; exact hp2), lt_e, a1, Int32.or_zero, Int32.add_zero]
  · obtain ⟨rfl, q⟩ := hI
    have hC := q.c h (by omega) (by omega) (by omega)
    refine ⟨S, ?_, q⟩
    unfold f_X11_rounds_24b
    rw [hC.1, if_pos (by rw [nLe (by omega) (by omega)]; omega)]
def rdA (c : Cv) : Nat → Int32 × Int32 × Int32 := itN (fun st a => itN (rdS c st) a (cm c)) (0, 0, 0)
theorem nLe8 {i : Nat} (h : i < 8) : ¬ (8 : Int32) ≤ nI i := by rw [lit, nLe (by omega) (by omega)]; omega
theorem eq_rounds : EQ1 RelP f_X10_rounds f_X11_rounds := by
  apply qr
  intro S c o r hS ok hC hM
  refine ⟨(rdA c 8).1, some [(rdA c 8).2.1.toInt64, (rdA c 8).2.2.toInt64], (fun l e => by cases e; simp), ?_, fun S1 hM1 q1 => ?_⟩
  · unfold f_X10_rounds
    refine lp_ex (body := f_X10_rounds_9b _) (Q := fun w => AC w S (rdA c 8).1 (some [(rdA c 8).2.1.toInt64, (rdA c 8).2.2.toInt64])) 8 (fun i v T => v = ((rdA c i).1, (rdA c i).2.1, (rdA c i).2.2, nI i) ∧ offE S T) (fun i k v T hi hI => ?_) (fun k v T hI => ?_) FU 0 _ S (by omega) (by unfold FU; omega) ⟨rfl, offE.rf S⟩
    · obtain ⟨rfl, q⟩ := hI
      obtain ⟨T2, t1, t2⟩ := rd_c (T := T) ok (hC.1.q q.q) (show i ≤ 7 by omega) (rdA c i) (fun v5 S6 => k (v5.1, v5.2.1, v5.2.2.1, (nI i + (1 : Int32))) S6)
      refine ⟨_, T2, ?_, rfl, q.tr t2⟩
      unfold f_X10_rounds_9b
      simp only
      rw [if_neg (nLe8 hi)]
      refine t1.trans ?_
      simp only [a1]
      rfl
    · obtain ⟨rfl, q⟩ := hI
      obtain ⟨T2, s1, s2, s3, s4⟩ := put_e (rdA c 8).2.1.toInt64 (RwC.nil T) (by simp)
      obtain ⟨T3, t1, t2, t3, t4⟩ := put_e (rdA c 8).2.2.toInt64 s3 (by simp)
      refine AC.y (S1 := T3) ?_ (((q.q.tr (q10 T 0)).tr s2).tr t2) t3
      unfold f_X10_rounds_9b
      rw [if_pos (show (8 : Int32) ≤ nI 8 by decide)]
      dsimp only
      rw [begin_e, bd_e, s1, bd_e, t1, bd_e]
  · unfold f_X11_rounds
    rw [lt_e]
    refine lp_ex (body := f_X11_rounds_14b _) (Q := fun w => AM w S1 (rdA c 8).1 (some [(rdA c 8).2.1.toInt64, (rdA c 8).2.2.toInt64])) 8 (fun i v T => v = ((rdA c i).1, (rdA c i).2.1, (rdA c i).2.2, nI i) ∧ offM (sI S1 122 0 0) T) (fun i k v T hi hI => ?_) (fun k v T hI => ?_) FU 0 _ _ (by omega) (by unfold FU; omega) ⟨rfl, offM.rf _⟩
    · obtain ⟨rfl, q⟩ := hI
      obtain ⟨T2, t1, t2⟩ := rd_m (T := T) ok (q.c (hM1.q (q00 S1 0)).1 (by omega) (by omega) (by omega)) (show i ≤ 7 by omega) (rdA c i) (fun v5 S6 => k (v5.1, v5.2.1, v5.2.2.1, (nI i + (1 : Int32))) S6)
      refine ⟨_, T2, ?_, rfl, q.tr t2⟩
      unfold f_X11_rounds_14b
      simp only
      rw [if_neg (nLe8 hi)]
      refine t1.trans ?_
      simp only [a1]
      rfl
    · obtain ⟨rfl, q⟩ := hI
      obtain ⟨T2, s1, s2, s3, s4⟩ := ent_e (rdA c 8).2.1.toInt64 (RwM.nil T) (by simp)
      obtain ⟨T3, t1, t2, t3, t4⟩ := ent_e (rdA c 8).2.2.toInt64 s3 (by simp)
      refine AM.y (S1 := T3) ?_ (((((q00 S1 0).tr q.q).tr (q01 T 0)).tr s2).tr t2) t3
      unfold f_X11_rounds_14b
      rw [if_pos (show (8 : Int32) ≤ nI 8 by decide)]
      dsimp only
      rw [lt_e, s1, bd_e, t1, bd_e]
