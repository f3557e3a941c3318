/-! questions: what they may change -/
def scr2 (o k : Nat) : Bool := scr o k || (decide (o = 10) && decide (k = 1)) || (decide (o = 122) && decide (k = 1))
def PC (o k : Nat) : Bool := decide (122 ≤ o) || !scr2 o k
def PM (o k : Nat) : Bool := decide (o < 122) || !scr2 o k
def LC (o : Nat) : Bool := decide (122 ≤ o)
def LM (o : Nat) : Bool := decide (o < 122)
def Sm (P : Nat → Nat → Bool) (L : Nat → Bool) (S S' : St) : Prop := (∀ a b, P a b = true → gI S' a b = gI S a b) ∧ ∀ a b, L a = true → gL S' a b = gL S a b
abbrev QC : St → St → Prop := Sm PC LC
abbrev QM : St → St → Prop := Sm PM LM
theorem Sm.rf {P : Nat → Nat → Bool} {L : Nat → Bool} (S : St) : Sm P L S S := ⟨fun _ _ _ => rfl, fun _ _ _ => rfl⟩
theorem Sm.tr {P : Nat → Nat → Bool} {L : Nat → Bool} {S S1 S2 : St} (h1 : Sm P L S S1) (h2 : Sm P L S1 S2) : Sm P L S S2 := ⟨fun o k h => (h2.1 o k h).trans (h1.1 o k h), fun o k h => (h2.2 o k h).trans (h1.2 o k h)⟩
theorem Sm.sI {P : Nat → Nat → Bool} {L : Nat → Bool} {S S1 : St} {o k : Nat} {v : Int32} (h : Sm P L S S1) (hs : P o k = false) : Sm P L S (sI S1 o k v) := by
  refine ⟨fun a b hab => ?_, h.2⟩
  rw [gI_s]
  by_cases e1 : a = o
  · by_cases e2 : b = k
    · subst e1; subst e2; rw [hs] at hab; cases hab
    · rw [if_pos e1, if_neg e2]; exact h.1 a b hab
  · rw [if_neg e1]; exact h.1 a b hab
theorem Sm.sR {P : Nat → Nat → Bool} {L : Nat → Bool} {S S1 : St} {o : Nat} {f : Nat → Int32} (h : Sm P L S S1) (hs : ∀ k, P o k = false) : Sm P L S (sR S1 o f) := by
  refine ⟨fun a b hab => ?_, h.2⟩
  rw [gI_r]
  by_cases e : a = o
  · subst e; rw [hs b] at hab; cases hab
  · rw [if_neg e]; exact h.1 a b hab
theorem Sm.sL {P : Nat → Nat → Bool} {L : Nat → Bool} {S S1 : St} {o k : Nat} {v : Int64} (h : Sm P L S S1) (hs : L o = false) : Sm P L S (sL S1 o k v) := by
  refine ⟨h.1, fun a b hab => ?_⟩
  rw [gL_l, if_neg]
  · exact h.2 a b hab
  · intro e; subst e; rw [hs] at hab; cases hab
theorem Sm.sQ {P : Nat → Nat → Bool} {L : Nat → Bool} {S S1 : St} {o : Nat} {f : Nat → Int64} (h : Sm P L S S1) (hs : L o = false) : Sm P L S (sQ S1 o f) := by
  refine ⟨h.1, fun a b hab => ?_⟩
  rw [gL_q, if_neg]
  · exact h.2 a b hab
  · intro e; subst e; rw [hs] at hab; cases hab
/-- nothing but scratch and the row is changed -/
theorem RelP.row {S E : St} (h : RelP S) (hs : ∀ o k, scr2 o k = false → gI E o k = gI S o k) (hr : RR E) : RelP E := by
  -- E with the row's two sizes as they were, and its longs
  have hq : RelP (sQ (sQ (sI (sI E 10 1 (gI S 10 1)) 122 1 (gI S 122 1)) 11 (gL S 11)) 123 (gL S 123)) := by
    refine RelP.sim (S := S) ⟨fun o k hk => ?_, fun k => ⟨rfl, rfl⟩⟩ h
    show gI (sI (sI E 10 1 (gI S 10 1)) 122 1 (gI S 122 1)) o k = _
    rw [gI_s, gI_s]
    by_cases e1 : o = 122 ∧ k = 1
    · obtain ⟨rfl, rfl⟩ := e1; rfl
    by_cases e2 : o = 10 ∧ k = 1
    · obtain ⟨rfl, rfl⟩ := e2; rfl
    have : gI E o k = gI S o k := by
      apply hs
      unfold scr2
      rw [hk]
      by_cases q1 : o = 10
      · have q2 : ¬ k = 1 := fun q => e2 ⟨q1, q⟩
        rw [decide_eq_false q2]; simp
      · rw [decide_eq_false q1]
        by_cases q3 : o = 122
        · have q4 : ¬ k = 1 := fun q => e1 ⟨q3, q⟩
          rw [decide_eq_false q4]; simp
        · rw [decide_eq_false q3]; simp
    by_cases q3 : o = 122
    · rw [if_pos q3, if_neg (fun q => e1 ⟨q3, q⟩), if_neg (by omega)]; exact this
    · rw [if_neg q3]
      by_cases q1 : o = 10
      · rw [if_pos q1, if_neg (fun q => e2 ⟨q1, q⟩)]; exact this
      · rw [if_neg q1]; exact this
  obtain ⟨hT, ⟨m, hC, hO, hH, hK⟩, hN, hR, hF, hE, hU⟩ := hq
  have hz : Hz (sQ (sQ (sI (sI E 10 1 (gI S 10 1)) 122 1 (gI S 122 1)) 11 (gL S 11)) 123 (gL S 123)) E := by
    intro o k ho
    show _ = gI (sI (sI E 10 1 (gI S 10 1)) 122 1 (gI S 122 1)) o k
    rw [gI_s, if_neg (by intro e; subst e; cases ho), gI_s, if_neg (by intro e; subst e; cases ho)]
  exact ⟨hT.fr, ⟨m, hC.fr, hO.f6, hH.fr (dd := hz), hK.fr (dd := hz)⟩, hN.f6, hr, hF.fr, hE.fr, hU.fr⟩
theorem QC.s {S S1 S2 : St} (h1 : QC S S1) (h2 : QM S1 S2) : ∀ o k, scr2 o k = false → gI S2 o k = gI S o k := by
  intro o k h
  rw [h2.1 o k (by unfold PM; rw [h]; simp), h1.1 o k (by unfold PC; rw [h]; simp)]
/-! the row -/
def RwC (S : St) (l : List Int64) : Prop := gI S 10 1 = nI l.length ∧ ∀ i, i < l.length → gL S 11 i = l.getD i 0
def RwM (S : St) (l : List Int64) : Prop := gI S 122 1 = nI l.length ∧ ∀ i, i < l.length → gL S 123 i = l.getD i 0
theorem rw_rr {S1 S2 : St} {l : List Int64} (hl : l.length ≤ 16) (h1 : RwC S1 l) (h2 : QM S1 S2) (h3 : RwM S2 l) : RR S2 := by
  refine ⟨l.length, hl, ?_, h3.1, fun i hi => ?_⟩
  · rw [h2.1 10 1 rfl]; exact h1.1
  · rw [h2.2 11 i rfl, h1.2 i hi, h3.2 i hi]
theorem getD_ap {l : List Int64} {v : Int64} {i : Nat} (h : i < (l ++ [v]).length) : (l ++ [v]).getD i 0 = if i = l.length then v else l.getD i 0 := by
  rw [List.length_append, List.length_singleton] at h
  by_cases e : i = l.length
  · subst e; rw [if_pos rfl]; simp [List.getD]
  · rw [if_neg e]
    simp only [List.getD]
    rw [List.getElem?_append_left (by omega)]
theorem put_e {S : St} {l : List Int64} (v : Int64) (h : RwC S l) (hl : l.length < 16) : ∃ S', f_X5_put v S = some ((), S') ∧ QC S S' ∧ RwC S' (l ++ [v]) ∧ (∀ a b, a ≠ 10 → gI S' a b = gI S a b) := by
  obtain ⟨h1, h2⟩ := h
  refine ⟨sI (sL S 11 l.length v) 10 1 (nI (l.length + 1)), ?_, ((Sm.rf S).sL rfl).sI rfl, ⟨?_, fun i hi => ?_⟩, fun a b ha => ?_⟩
  · unfold f_X5_put
    simp (disch := omega) only [h1, lit, inb_nI, nLt, nLe, nEq, nAdd, nI_t, nMul, nSub, show ¬ 16 ≤ l.length by omega, if_false, hl, if_true, lt_e, gI_l]
  · rw [List.length_append]; rfl
  · rw [getD_ap hi]
    show (if (11 : Nat) = 11 then (if i = l.length then v else gL S 11 i) else gL S 11 i) = _
    rw [if_pos rfl]
    by_cases e : i = l.length
    · rw [if_pos e, if_pos e]
    · rw [if_neg e, if_neg e]
      rw [List.length_append, List.length_singleton] at hi
      exact h2 i (by omega)
  · rw [gI_s, if_neg ha, gI_l]
theorem ent_e {S : St} {l : List Int64} (v : Int64) (h : RwM S l) (hl : l.length < 24) : ∃ S', f_X11_enters v S = some ((), S') ∧ QM S S' ∧ RwM S' (l ++ [v]) ∧ (∀ a b, (a ≠ 122 ∨ b ≠ 1) → gI S' a b = gI S a b) := by
  obtain ⟨h1, h2⟩ := h
  refine ⟨sI (sL S 123 l.length v) 122 1 (nI (l.length + 1)), ?_, ((Sm.rf S).sL rfl).sI rfl, ⟨?_, fun i hi => ?_⟩, fun a b ha => ?_⟩
  · unfold f_X11_enters
    simp (disch := omega) only [h1, lit, inb_nI, nLt, nLe, nEq, nAdd, nI_t, nMul, nSub, hl, if_true, lt_e, gI_l]
  · rw [List.length_append]; rfl
  · rw [getD_ap hi]
    show (if (123 : Nat) = 123 then (if i = l.length then v else gL S 123 i) else gL S 123 i) = _
    rw [if_pos rfl]
    by_cases e : i = l.length
    · rw [if_pos e, if_pos e]
    · rw [if_neg e, if_neg e]
      rw [List.length_append, List.length_singleton] at hi
      exact h2 i (by omega)
  · rw [gI_s]
    by_cases e : a = 122
    · rw [if_pos e, if_neg (by omega), gI_l]
    · rw [if_neg e, gI_l]
theorem begin_e (S : St) : f_X5_begin S = some ((), sI S 10 1 0) := rfl
theorem RwC.nil (S : St) : RwC (sI S 10 1 0) [] := ⟨rfl, fun i hi => absurd hi (by simp)⟩
theorem RwM.nil (S : St) : RwM (sI S 122 1 0) [] := ⟨rfl, fun i hi => absurd hi (by simp)⟩
/-- a question: both sides to one answer and one row, or none -/
theorem qry {f g : St → Option (Int32 × St)} (h : ∀ S, RelP S → ∃ (r : Int32) (vs : Option (List Int64)), (∀ l, vs = some l → l.length ≤ 16) ∧ Wp (f S) (fun r' S1 => r' = r ∧ QC S S1 ∧ (∀ l, vs = some l → RwC S1 l) ∧ (vs = none → gI S1 10 1 = gI S 10 1 ∧ ∀ k, gL S1 11 k = gL S 11 k)) ∧ ∀ S1, QC S S1 → Wp (g S1) (fun r' S2 => r' = r ∧ QM S1 S2 ∧ (∀ l, vs = some l → RwM S2 l) ∧ (vs = none → gI S2 122 1 = gI S1 122 1 ∧ ∀ k, gL S2 123 k = gL S1 123 k))) : EQ1 RelP f g := by
  apply EQ1.of
  intro S hS
  obtain ⟨r, vs, hl, h1, h2⟩ := h S hS
  refine h1.mo ?_
  rintro r1 S1 ⟨rfl, q1, w1, n1⟩
  refine (h2 S1 q1).mo ?_
  rintro r2 S2 ⟨rfl, q2, w2, n2⟩
  refine ⟨rfl, hS.row (QC.s q1 q2) ?_⟩
  cases vs with
  | some l => exact rw_rr (hl l rfl) (w1 l rfl) q2 (w2 l rfl)
  | none =>
    obtain ⟨t, t1, t2, t3, t4⟩ := hS.2.2.2.1
    obtain ⟨a1, a2⟩ := n1 rfl
    obtain ⟨b1, b2⟩ := n2 rfl
    refine ⟨t, t1, ?_, ?_, fun i hi => ?_⟩
    · rw [q2.1 10 1 rfl, a1, t2]
    · rw [b1, q1.1 122 1 rfl, t3]
    · rw [q2.2 11 i rfl, a2, b2, q1.2 123 i rfl]; exact t4 i hi
/-! the cave as numbers -/
abbrev Cv : Type := Nat × (Nat → Nat) × (Nat → Nat) × (Nat → Nat) × (Nat → Nat) × (Nat → Nat) × Nat × Int32
def cm (c : Cv) : Nat := c.1
def ca (c : Cv) : Nat → Nat := c.2.1
def cb (c : Cv) : Nat → Nat := c.2.2.1
def cd (c : Cv) : Nat → Nat := c.2.2.2.1
def cn (c : Cv) : Nat → Nat := c.2.2.2.2.1
def cw (c : Cv) : Nat → Nat := c.2.2.2.2.2.1
def co (c : Cv) : Nat := c.2.2.2.2.2.2.1
def ch (c : Cv) : Int32 := c.2.2.2.2.2.2.2
def Cok (c : Cv) : Prop := cm c ≤ 12 ∧ (∀ i, i < cm c → ca c i ≤ 7 ∧ cb c i ≤ 7 ∧ ca c i ≠ cb c i ∧ 1 ≤ cd c i ∧ cd c i ≤ 9 ∧ cn c i ≤ 9 ∧ cw c i ≤ 9) ∧ co c < 2 ^ cm c
def CC (T : St) (c : Cv) : Prop := gI T 3 2 = nI (cm c) ∧ (∀ i, i < cm c → gI T 4 i = nI (ca c i) ∧ gI T 5 i = nI (cb c i) ∧ gI T 7 i = nI (cd c i) ∧ gI T 8 i = nI (cn c i) ∧ gI T 9 i = nI (cw c i)) ∧ gI T 6 3 = nI (co c) ∧ gI T 6 4 = ch c
def CM (T : St) (ar : Nat) (c : Cv) : Prop := gI T 122 3 = nI (cm c) ∧ (∀ i, i < cm c → gI T 124 i = nI (ca c i) ∧ gI T 125 i = nI (cb c i) ∧ gI T ar i = nI (cd c i) ∧ gI T ar (12 + i) = nI (cn c i) ∧ gI T ar (24 + i) = nI (cw c i)) ∧ gI T ar 36 = nI (co c) ∧ gI T ar 37 = ch c
theorem inR_n {x : Int32} {a b : Nat} (h : inR x a b) (hb : b < 2147483648) : x = nI x.toNatClampNeg ∧ a ≤ x.toNatClampNeg ∧ x.toNatClampNeg ≤ b := by
  obtain ⟨j, h1, h2, rfl⟩ := h
  rw [nI_t (by omega)]; exact ⟨rfl, h1, h2⟩
theorem p12 {m : Nat} (h : m ≤ 12) : 2 ^ m ≤ 4096 := Nat.pow_le_pow_right (n := 2) (by omega) h
theorem RelP.cv {S : St} (h : RelP S) : ∃ c, Cok c ∧ CC S c ∧ CM S 126 c := by
  obtain ⟨hT, ⟨m, ⟨c1, c2, c3, c4⟩, ⟨o1, o2, o3⟩, hH, hK⟩, ⟨n1, n2, n3, n4⟩, hR, hF, hE, hU⟩ := h
  have h2 := p12 c1
  have hp : 0 < 2 ^ m := Nat.two_pow_pos m
  refine ⟨(m, fun i => (gI S 4 i).toNatClampNeg, fun i => (gI S 5 i).toNatClampNeg, fun i => (gI S 7 i).toNatClampNeg, fun i => (gI S 8 i).toNatClampNeg, fun i => (gI S 9 i).toNatClampNeg, (gI S 6 3).toNatClampNeg, gI S 6 4), ⟨c1, fun i hi => ?_, ?_⟩, ⟨c2, fun i hi => ?_, ?_, rfl⟩, ⟨c3, fun i hi => ?_, ?_, ?_⟩⟩
  · obtain ⟨x1, x2, x3, x4, x5⟩ := c4 i hi
    obtain ⟨y1, y2, y3⟩ := o1 i hi
    have z1 := inR_n x3 (by omega)
    have z2 := inR_n x4 (by omega)
    have z3 := inR_n y1 (by omega)
    have z4 := inR_n y2 (by omega)
    have z5 := inR_n y3 (by omega)
    refine ⟨z1.2.2, z2.2.2, fun e => x5 ?_, z3.2.1, z3.2.2, z4.2.2, z5.2.2⟩
    rw [z1.1, z2.1]; exact congrArg nI e
  · have := inR_n o2 (by omega)
    show (gI S 6 3).toNatClampNeg < 2 ^ m
    omega
  · obtain ⟨x1, x2, x3, x4, x5⟩ := c4 i hi
    obtain ⟨y1, y2, y3⟩ := o1 i hi
    exact ⟨(inR_n x3 (by omega)).1, (inR_n x4 (by omega)).1, (inR_n y1 (by omega)).1, (inR_n y2 (by omega)).1, (inR_n y3 (by omega)).1⟩
  · exact (inR_n o2 (by omega)).1
  · obtain ⟨x1, x2, x3, x4, x5⟩ := c4 i hi
    obtain ⟨y1, y2, y3⟩ := o1 i hi
    obtain ⟨w1, w2, w3⟩ := n1 i (by change i < m at hi; omega)
    rw [Nat.zero_add] at w1 w2 w3
    refine ⟨x1.symm.trans (inR_n x3 (by omega)).1, x2.symm.trans (inR_n x4 (by omega)).1, w1.symm.trans (inR_n y1 (by omega)).1, w2.symm.trans (inR_n y2 (by omega)).1, w3.symm.trans (inR_n y3 (by omega)).1⟩
  · exact n2.symm.trans (inR_n o2 (by omega)).1
  · exact n3.symm
theorem CC.q {S T : St} {c : Cv} (h : CC S c) (q : QC S T) : CC T c := by
  obtain ⟨h1, h2, h3, h4⟩ := h
  refine ⟨(q.1 _ _ rfl).trans h1, fun i hi => ?_, (q.1 _ _ rfl).trans h3, (q.1 _ _ rfl).trans h4⟩
  rw [q.1 4 i rfl, q.1 5 i rfl, q.1 7 i rfl, q.1 8 i rfl, q.1 9 i rfl]
  exact h2 i hi
theorem CM.c {S T : St} {c : Cv} (h : CM S 126 c) (q : QC S T) : CM T 126 c := by
  obtain ⟨h1, h2, h3, h4⟩ := h
  refine ⟨(q.1 _ _ rfl).trans h1, fun i hi => ?_, (q.1 _ _ rfl).trans h3, (q.1 _ _ rfl).trans h4⟩
  rw [q.1 124 i rfl, q.1 125 i rfl, q.1 126 i rfl, q.1 126 (12 + i) rfl, q.1 126 (24 + i) rfl]
  exact h2 i hi
theorem CM.q {S T : St} {c : Cv} (h : CM S 126 c) (q : QM S T) : CM T 126 c := by
  obtain ⟨h1, h2, h3, h4⟩ := h
  refine ⟨(q.1 _ _ rfl).trans h1, fun i hi => ?_, (q.1 _ _ rfl).trans h3, (q.1 _ _ rfl).trans h4⟩
  rw [q.1 124 i rfl, q.1 125 i rfl, q.1 126 i rfl, q.1 126 (12 + i) rfl, q.1 126 (24 + i) rfl]
  exact h2 i hi
