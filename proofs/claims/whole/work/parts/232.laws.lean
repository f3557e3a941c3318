/-! laws -/
def lwI (p0 p1 p2 : Int32) : Int32 := (((p0 / (8 : Int32)) * p1) + ((p0 - p0 / (8 : Int32) * (8 : Int32)) * p2)) - (((p0 / (8 : Int32)) * p1) + ((p0 - p0 / (8 : Int32) * (8 : Int32)) * p2)) / (8 : Int32) * (8 : Int32)
theorem law_c (p0 p1 p2 : Int32) (S : St) : f_X3_becomesBy p0 p1 p2 S = some (lwI p0 p1 p2, S) := rfl
theorem law_m (p0 p1 p2 : Int32) (S : St) : f_X11_lawOf p0 p1 p2 S = some (lwI p0 p1 p2, S) := rfl
def lwN (t v b : Nat) : Nat := (t / 8 * v + t % 8 * b) % 8
theorem lw_n {t v b : Nat} (ht : t < 64) (hv : v ≤ 7) (hb : b ≤ 9) : lwI (nI t) (nI v) (nI b) = nI (lwN t v b) := by
  unfold lwI lwN
  have h1 : t / 8 * v ≤ 7 * 7 := Nat.mul_le_mul (by omega) hv
  have h2 : t % 8 * b ≤ 7 * 9 := Nat.mul_le_mul (by omega) hb
  rw [show (8 : Int32) = nI 8 from rfl, nRem (by omega) (by omega), nDiv (by omega) (by omega), nMul, nMul, nAdd, nRem (by omega) (by omega)]
def HeC (T : St) (q : Nat) (hv hb ha : Nat → Int32) : Prop := q ≤ 10 ∧ gI T 104 3 = nI q ∧ ∀ i, i < q → gI T 105 i = hv i ∧ gI T 106 i = hb i ∧ gI T 107 i = ha i
def HeM (T : St) (q : Nat) (hv hb ha : Nat → Int32) : Prop := q ≤ 10 ∧ gI T 122 42 = nI q ∧ ∀ i, i < q → gI T 148 i = hv i ∧ gI T 149 i = hb i ∧ gI T 150 i = ha i
theorem RelP.he {S : St} (h : RelP S) : ∃ q hv hb ha, HeC S q hv hb ha ∧ HeM S q hv hb ha := by
  obtain ⟨q, h1, h2, h3, h4⟩ := h.2.2.2.2.2.1
  exact ⟨q, gI S 105, gI S 106, gI S 107, ⟨h1, h2, fun i hi => ⟨rfl, rfl, rfl⟩⟩, h1, h3, fun i hi => ⟨(h4 i hi).1.symm, (h4 i hi).2.1.symm, (h4 i hi).2.2.symm⟩⟩
theorem HeM.c {S T : St} {q : Nat} {hv hb ha : Nat → Int32} (h : HeM S q hv hb ha) (hq : QC S T) : HeM T q hv hb ha := by
  obtain ⟨h1, h2, h3⟩ := h
  refine ⟨h1, (hq.1 122 42 rfl).trans h2, fun i hi => ?_⟩
  rw [hq.1 148 i rfl, hq.1 149 i rfl, hq.1 150 i rfl]; exact h3 i hi
theorem HeM.q {S T : St} {q : Nat} {hv hb ha : Nat → Int32} (h : HeM S q hv hb ha) (hq : QM S T) : HeM T q hv hb ha := by
  obtain ⟨h1, h2, h3⟩ := h
  refine ⟨h1, (hq.1 122 42 rfl).trans h2, fun i hi => ?_⟩
  rw [hq.1 148 i rfl, hq.1 149 i rfl, hq.1 150 i rfl]; exact h3 i hi
abbrev oF : St → St → Prop := Sm (fun a b => decide (a ≠ 108) && decide (a ≠ 109) && (decide (a ≠ 104) || decide (b ≠ 5))) (fun _ => true)
theorem oF.q {T T' : St} (h : oF T T') : QC T T' := by
  refine ⟨fun a b hab => h.1 a b ?_, fun a b _ => h.2 a b rfl⟩
  have e1 : a ≠ 108 := by intro e; subst e; cases hab
  have e2 : a ≠ 109 := by intro e; subst e; cases hab
  by_cases e3 : a = 104
  · have e4 : b ≠ 5 := by intro e; subst e; subst e3; cases hab
    simp [e1, e2, e4]
  · simp [e1, e2, e3]
theorem HeC.o {S T : St} {q : Nat} {hv hb ha : Nat → Int32} (h : HeC S q hv hb ha) (hq : oF S T) : HeC T q hv hb ha := by
  obtain ⟨h1, h2, h3⟩ := h
  refine ⟨h1, (hq.1 104 3 rfl).trans h2, fun i hi => ?_⟩
  rw [hq.1 105 i rfl, hq.1 106 i rfl, hq.1 107 i rfl]; exact h3 i hi
def lwP (hv hb ha : Nat → Int32) (t : Nat) (i : Nat) : Bool := decide (lwI (nI t) (hv i) (hb i) = ha i)
def lwB (q : Nat) (hv hb ha : Nat → Int32) (t : Nat) : Bool := alN (lwP hv hb ha t) q
theorem lwB_c {T : St} {q : Nat} {hv hb ha : Nat → Int32} (h : HeC T q hv hb ha) (t : Nat) : f_X3_fitsHeard (nI t) T = some (flI (lwB q hv hb ha t), T) := by
  obtain ⟨f1, f2, f3⟩ := h
  obtain ⟨h1, h2, h3⟩ := ld_a (lwP hv hb ha t) q
  unfold lwB
  rw [al_l]
  generalize hL : ldN (lwP hv hb ha t) q = L at *
  refine lp_for (body := f_X3_fitsHeard_2b (nI t) (fun v7 S8 => some ((1 : Int32), S8))) L (fun i => (nI i, T)) (out := some (flI (decide (q ≤ L)), T)) (fun i kk hi => ?_) (fun kk => ?_) FU 0 (by omega) (by unfold FU; omega)
  · obtain ⟨a, b, d⟩ := f3 i (by omega)
    have wi : inb (nI i) 10 := by rw [inb_nI (by omega)]; omega
    unfold f_X3_fitsHeard_2b
    simp only
    rw [f2, if_neg (by rw [nLe (by omega) (by omega)]; omega)]
    simp only [if_pos wi, nI_t (show i < 2147483648 by omega), law_c, bd_e, a, b, d]
    rw [if_pos (of_decide_eq_true (h2 i hi)), a1]
  · unfold f_X3_fitsHeard_2b
    simp only
    by_cases g : q ≤ L
    · rw [f2, if_pos (by rw [nLe (by omega) (by omega)]; omega), decide_eq_true g]; rfl
    · obtain ⟨a, b, d⟩ := f3 L (by omega)
      have wi : inb (nI L) 10 := by rw [inb_nI (by omega)]; omega
      rw [f2, if_neg (by rw [nLe (by omega) (by omega)]; omega), decide_eq_false g]
      simp only [if_pos wi, nI_t (show L < 2147483648 by omega), law_c, bd_e, a, b, d]
      rw [if_neg (of_decide_eq_false (h3 (by omega)))]; rfl
theorem lwB_m {T : St} {q : Nat} {hv hb ha : Nat → Int32} (h : HeM T q hv hb ha) (t : Nat) : f_X11_isLaw (nI t) T = some (flI (lwB q hv hb ha t), T) := by
  obtain ⟨f1, f2, f3⟩ := h
  refine lp_for (body := f_X11_isLaw_4b (nI t) (fun v7 S8 => if v7.1 = 0 ∨ v7.1 = 1 then some (v7.1, S8) else none)) q (fun i => ((flI (lwB i hv hb ha t), nI i), T)) (out := some (flI (lwB q hv hb ha t), T)) (fun i kk hi => ?_) (fun kk => ?_) FU 0 (by omega) (by unfold FU; omega)
  · obtain ⟨a, b, d⟩ := f3 i hi
    have wi : inb (nI i) 10 := by rw [inb_nI (by omega)]; omega
    have es : lwB (i + 1) hv hb ha t = (lwB i hv hb ha t && lwP hv hb ha t i) := rfl
    unfold f_X11_isLaw_4b f_X11_isLaw_45 f_X11_isLaw_46
    simp only
    rw [f2, if_neg (by rw [nLe (by omega) (by omega)]; omega), es]
    simp only [if_pos wi, nI_t (show i < 2147483648 by omega), law_m, bd_e, a, b, d]
    cases g : lwB i hv hb ha t with
    | false => rw [if_pos (show flI false = 0 from rfl), a1]; rfl
    | true =>
      rw [if_neg (show ¬ flI true = 0 by decide), a1]
      by_cases g2 : lwI (nI t) (hv i) (hb i) = ha i
      · rw [if_pos g2, show lwP hv hb ha t i = true from decide_eq_true g2]; rfl
      · rw [if_neg g2, show lwP hv hb ha t i = false from decide_eq_false g2]; rfl
  · unfold f_X11_isLaw_4b
    simp only
    rw [f2, if_pos (by rw [nLe (by omega) (by omega)]; omega), if_pos (flI_w _)]
def fitL (p : Nat → Bool) : Nat → List Nat
  | 0 => []
  | k + 1 => if p k = true then fitL p k ++ [k] else fitL p k
theorem fit_le (p : Nat → Bool) : ∀ k, (fitL p k).length ≤ k := by
  intro k
  induction k with
  | zero => exact Nat.le_refl _
  | succ k ih =>
    rw [fitL]
    split
    · rw [List.length_append, List.length_singleton]; omega
    · omega
theorem fit_in (p : Nat → Bool) : ∀ k t, t ∈ fitL p k → t < k := by
  intro k
  induction k with
  | zero => intro t h; cases h
  | succ k ih =>
    intro t h
    rw [fitL] at h
    split at h
    · rcases List.mem_append.mp h with h | h
      · have := ih t h; omega
      · rw [List.mem_singleton] at h; omega
    · have := ih t h; omega
theorem nge {l : List Nat} {v i : Nat} (h : i < (l ++ [v]).length) : (l ++ [v]).getD i 0 = if i = l.length then v else l.getD i 0 := by
  rw [List.length_append, List.length_singleton] at h
  by_cases e : i = l.length
  · subst e; rw [if_pos rfl]; simp [List.getD]
  · rw [if_neg e]
    simp only [List.getD]
    rw [List.getElem?_append_left (by omega)]
theorem find_c {T : St} {q : Nat} {hv hb ha : Nat → Int32} (h : HeC T q hv hb ha) : ∃ T', f_X3_findFitting T = some ((), T') ∧ oF T T' ∧ gI T' 104 5 = nI (fitL (lwB q hv hb ha) 64).length ∧ ∀ j, j < (fitL (lwB q hv hb ha) 64).length → gI T' 108 j = nI ((fitL (lwB q hv hb ha) 64).getD j 0) := by
  unfold f_X3_findFitting
  rw [lt_e]
  have h0 := lp_ex (body := f_X3_findFitting_7b (fun v8 S9 => some ((), S9))) (Q := fun z => ∃ T', z = some ((), T') ∧ oF T T' ∧ gI T' 104 5 = nI (fitL (lwB q hv hb ha) 64).length ∧ ∀ j, j < (fitL (lwB q hv hb ha) 64).length → gI T' 108 j = nI ((fitL (lwB q hv hb ha) 64).getD j 0)) 64 (fun i v S => v = nI i ∧ oF T S ∧ gI S 104 5 = nI (fitL (lwB q hv hb ha) i).length ∧ ∀ j, j < (fitL (lwB q hv hb ha) i).length → gI S 108 j = nI ((fitL (lwB q hv hb ha) i).getD j 0)) (fun i k v S hi hI => ?_) (fun k v S hI => ?_) FU 0 (0 : Int32) (sI T 104 5 0) (by omega) (by unfold FU; omega) ⟨rfl, (Sm.rf T).sI rfl, rfl, fun j hj => absurd hj (by simp [fitL])⟩
  · exact h0
  · obtain ⟨rfl, w1, w2, w3⟩ := hI
    have hl := fit_le (lwB q hv hb ha) i
    have e := lwB_c (h.o w1) i
    unfold f_X3_findFitting_7b f_X3_findFitting_41
    rw [if_neg (show ¬ (64 : Int32) ≤ nI i by rw [lit, nLe (by omega) (by omega)]; omega), e, bd_e, a1, fitL]
    cases g : lwB q hv hb ha i with
    | false =>
      refine ⟨_, S, by rw [if_pos (show flI false = 0 from rfl)], rfl, w1, ?_⟩
      rw [if_neg (by simp)]; exact ⟨w2, w3⟩
    | true =>
      refine ⟨_, sI (sI S 108 (fitL (lwB q hv hb ha) i).length (nI i)) 104 5 (nI ((fitL (lwB q hv hb ha) i).length + 1)), ?_, rfl, (w1.sI rfl).sI rfl, ?_⟩
      · have e5 : gI (sI S 108 (fitL (lwB q hv hb ha) i).length (nI i)) 104 5 = nI (fitL (lwB q hv hb ha) i).length := w2
        rw [if_neg (show ¬ flI true = 0 by decide), w2, if_pos (show inb (nI (fitL (lwB q hv hb ha) i).length) 64 by rw [inb_nI (by omega)]; omega), lt_e, lt_e, nI_t (by omega), e5, a1]
      · rw [if_pos rfl]
        refine ⟨?_, fun j hj => ?_⟩
        · rw [List.length_append]; rfl
        · rw [nge hj]
          show (if j = (fitL (lwB q hv hb ha) i).length then nI i else gI S 108 j) = _
          by_cases ej : j = (fitL (lwB q hv hb ha) i).length
          · rw [if_pos ej, if_pos ej]
          · rw [if_neg ej, if_neg ej]
            rw [List.length_append, List.length_singleton] at hj
            exact w3 j (by omega)
  · obtain ⟨rfl, w1, w2, w3⟩ := hI
    unfold f_X3_findFitting_7b
    rw [if_pos (show (64 : Int32) ≤ nI 64 by decide)]
    exact ⟨S, rfl, w1, w2, w3⟩
def lwR : List Nat → List Int64
  | [] => []
  | t :: _ => [(nI t / 8).toInt64, (nI t - nI t / 8 * 8).toInt64]
theorem lwR_a (l : List Nat) (v : Nat) : lwR (l ++ [v]) = if l.length = 0 then lwR [v] else lwR l := by
  cases l with
  | nil => rfl
  | cons a l => rw [if_neg (by simp)]; rfl
theorem lwR_l (l : List Nat) : (lwR l).length ≤ 2 := by cases l <;> simp [lwR]
theorem eq_laws : EQ1 RelP f_X10_laws f_X11_laws := by
  apply qr
  intro S c o r hS ok hC hM
  obtain ⟨q, hv, hb, ha, hH, hG⟩ := hS.he
  generalize hp : lwB q hv hb ha = p
  refine ⟨nI (fitL p 64).length, some (lwR (fitL p 64)), (fun l e => by cases e; have := lwR_l (fitL p 64); omega), ?_, fun S1 hM1 q1 => ?_⟩
  · obtain ⟨T1, s1, s2, s3, s4⟩ := find_c hH
    rw [hp] at s3 s4
    have hl := fit_le p 64
    unfold f_X10_laws f_X10_laws_64
    rw [s1, bd_e, begin_e, bd_e, show gI (sI T1 10 1 0) 104 5 = gI T1 104 5 from rfl, s3]
    cases e : fitL p 64 with
    | nil =>
      rw [e] at s3
      refine AC.y (S1 := sI T1 10 1 0) ?_ (s2.q.tr (q10 T1 0)) (RwC.nil T1)
      rw [if_pos (show nI [].length ≤ 0 by decide)]
    | cons t l =>
      rw [e] at s3 s4 hl
      have e0 : gI T1 108 0 = nI t := s4 0 (by simp)
      obtain ⟨T2, u1, u2, u3, u4⟩ := put_e (nI t / 8).toInt64 (RwC.nil T1) (by simp)
      obtain ⟨T3, v1, v2, v3, v4⟩ := put_e (nI t - nI t / 8 * 8).toInt64 u3 (by simp)
      refine AC.y (S1 := T3) ?_ (((s2.q.tr (q10 T1 0)).tr u2).tr v2) v3
      rw [if_neg (show ¬ nI (t :: l).length ≤ 0 by rw [lit, nLe (by omega) (by omega)]; simp), show gI (sI T1 10 1 0) 108 0 = gI T1 108 0 from rfl, e0, u1, bd_e, u4 108 0 (by omega), show gI (sI T1 10 1 0) 108 0 = gI T1 108 0 from rfl, e0, v1, bd_e, v4 104 5 (by omega), u4 104 5 (by omega), show gI (sI T1 10 1 0) 104 5 = gI T1 104 5 from rfl, s3]
  · unfold f_X11_laws
    rw [lt_e, lt_e]
    have hG1 : HeM S1 q hv hb ha := hG.c q1
    have h0 := lp_ex (body := f_X11_laws_14b (fun v16 S17 => some (v16.1, S17))) (Q := fun z => AM z S1 (nI (fitL p 64).length) (some (lwR (fitL p 64)))) 64 (fun i v T => v = (nI (fitL p i).length, nI i) ∧ QM S1 T ∧ RwM T (lwR (fitL p i))) (fun i k v T hi hI => ?_) (fun k v T hI => ?_) FU 0 ((0 : Int32), (0 : Int32)) (sI (sI S1 122 0 0) 122 1 0) (by omega) (by unfold FU; omega) ⟨rfl, (q00 S1 0).tr (q01 _ 0), RwM.nil _⟩
    · exact h0
    · obtain ⟨rfl, w1, w2⟩ := hI
      have hl := fit_le p i
      have e := lwB_m (hG1.q w1) i
      rw [hp] at e
      unfold f_X11_laws_14b f_X11_laws_52
      simp only
      rw [if_neg (show ¬ (64 : Int32) ≤ nI i by rw [lit, nLe (by omega) (by omega)]; omega), e, bd_e, fitL]
      cases g : p i with
      | false =>
        refine ⟨_, T, ?_, rfl, w1, ?_⟩
        · rw [if_pos (show flI false = 0 from rfl), flg_flI, bd_e, lt_e, if_neg (by simp)]
          simp only [a1, flI_f, z00, Int32.add_zero]
        · rw [if_neg (by simp)]; exact w2
      | true =>
        rw [if_neg (show ¬ flI true = 0 by decide), if_pos rfl, lwR_a]
        by_cases z : (fitL p i).length = 0
        · have z2 : fitL p i = [] := List.length_eq_zero_iff.mp z
          rw [z2] at w2
          obtain ⟨T2, u1, u2, u3, u4⟩ := ent_e (nI i / 8).toInt64 w2 (by simp [lwR])
          obtain ⟨T3, v1, v2, v3, v4⟩ := ent_e (nI i - nI i / 8 * 8).toInt64 u3 (by simp [lwR])
          refine ⟨_, T3, ?_, rfl, (w1.tr u2).tr v2, ?_⟩
          · rw [if_pos (show nI (fitL p i).length = 0 by rw [z]; rfl), u1, bd_e, v1, bd_e, flg_flI, bd_e, lt_e, List.length_append, flI_t]
            simp only [a1, nAdd, List.length_singleton]
          · rw [if_pos z]; exact v3
        · refine ⟨_, T, ?_, rfl, w1, ?_⟩
          · rw [if_neg (show ¬ nI (fitL p i).length = 0 by rw [lit, nEq (by omega) (by omega)]; exact z), flg_flI, bd_e, lt_e, List.length_append, flI_t]
            simp only [a1, nAdd, List.length_singleton]
          · rw [if_neg z]; exact w2
    · obtain ⟨rfl, w1, w2⟩ := hI
      refine AM.y (S1 := T) ?_ w1 w2
      unfold f_X11_laws_14b
      rw [if_pos (show (64 : Int32) ≤ nI 64 by decide)]
/-! listens -/
abbrev Of : Type := (Nat → Nat) × Nat
def ofS (w : Nat) (a : Of) : Of := (fun j => if j = w then a.1 j + 1 else a.1 j, max a.2 (a.1 w + 1))
def ofA (v b : Nat) (l : List Nat) : Of := l.foldl (fun a t => ofS (lwN t v b) a) (fun _ => 0, 0)
theorem ofA_a (v b : Nat) (l : List Nat) (t : Nat) : ofA v b (l ++ [t]) = ofS (lwN t v b) (ofA v b l) := by
  unfold ofA; rw [List.foldl_append]; rfl
theorem of_g (v b : Nat) : ∀ (l : List Nat) (a : Of) (n : Nat), (∀ j, a.1 j ≤ n) → a.2 ≤ n → (∀ j, (l.foldl (fun a t => ofS (lwN t v b) a) a).1 j ≤ n + l.length) ∧ (l.foldl (fun a t => ofS (lwN t v b) a) a).2 ≤ n + l.length ∧ (0 < l.length ∨ 0 < a.2 → 0 < (l.foldl (fun a t => ofS (lwN t v b) a) a).2) := by
  intro l
  induction l with
  | nil => intro a n h1 h2; exact ⟨h1, h2, fun h => by rcases h with h | h; exact absurd h (by simp); exact h⟩
  | cons t l ih =>
    intro a n h1 h2
    have q := h1 (lwN t v b)
    obtain ⟨i1, i2, i3⟩ := ih (ofS (lwN t v b) a) (n + 1) (fun j => by
      show (if j = _ then _ else _) ≤ n + 1
      have := h1 j
      split <;> omega) (by show max _ _ ≤ n + 1; omega)
    rw [List.length_cons]
    refine ⟨fun j => ?_, ?_, fun _ => i3 (Or.inr ?_)⟩
    · have := i1 j
      rw [show n + (l.length + 1) = n + 1 + l.length by omega]; exact this
    · rw [show n + (l.length + 1) = n + 1 + l.length by omega]; exact i2
    · show 0 < max _ _
      omega
theorem of_b (v b : Nat) (l : List Nat) (n : Nat) (hn : l.length = n) : (∀ j, (ofA v b l).1 j ≤ n) ∧ (ofA v b l).2 ≤ n ∧ (0 < n → 0 < (ofA v b l).2) := by
  subst hn
  obtain ⟨h1, h2, h3⟩ := of_g v b l (fun _ => 0, 0) 0 (fun _ => Nat.le_refl _) (Nat.le_refl _)
  rw [Nat.zero_add] at h1 h2
  exact ⟨h1, h2, fun h => h3 (Or.inl h)⟩
theorem lw8 (t v b : Nat) : lwN t v b < 8 := Nat.mod_lt _ (by omega)
theorem zer_c (x1 x2 : Int32) (T : St) (e : Int32 → St → Option (Int32 × St)) : ∃ T', lp (f_X3_mostLeft_2b x1 x2 e) FU 0 T = e (nI 8) T' ∧ oF T T' ∧ gI T' 104 5 = gI T 104 5 ∧ (∀ j, gI T' 108 j = gI T 108 j) ∧ ∀ w, w < 8 → gI T' 109 w = nI 0 := by
  have h := lp_ex (body := f_X3_mostLeft_2b x1 x2 e) (Q := fun z => ∃ T', z = e (nI 8) T' ∧ oF T T' ∧ gI T' 104 5 = gI T 104 5 ∧ (∀ j, gI T' 108 j = gI T 108 j) ∧ ∀ w, w < 8 → gI T' 109 w = nI 0) 8 (fun i v S => v = nI i ∧ oF T S ∧ gI S 104 5 = gI T 104 5 ∧ (∀ j, gI S 108 j = gI T 108 j) ∧ ∀ w, w < i → gI S 109 w = nI 0) (fun i k v S hi hI => ?_) (fun k v S hI => ?_) FU 0 (0 : Int32) T (by omega) (by unfold FU; omega) ⟨rfl, Sm.rf T, rfl, fun _ => rfl, fun w hw => by omega⟩
  · exact h
  · obtain ⟨rfl, q, q2, q3, w⟩ := hI
    refine ⟨nI (i + 1), sI S 109 i 0, ?_, rfl, q.sI rfl, q2, q3, fun j hj => ?_⟩
    · unfold f_X3_mostLeft_2b
      rw [if_neg (nLe8 hi), if_pos (show inb (nI i) 8 by rw [inb_nI (by omega)]; omega), lt_e, nI_t (by omega), a1]
    · rw [gI_s, if_pos rfl]
      by_cases e : j = i
      · rw [if_pos e]; rfl
      · rw [if_neg e]; exact w j (by omega)
  · obtain ⟨rfl, q, q2, q3, w⟩ := hI
    refine ⟨S, ?_, q, q2, q3, w⟩
    unfold f_X3_mostLeft_2b
    rw [if_pos (show (8 : Int32) ≤ nI 8 by decide)]
theorem tkA (l : List Nat) {j : Nat} (h : j < l.length) : l.take (j + 1) = l.take j ++ [l.getD j 0] := by
  rw [List.take_add_one, List.getElem?_eq_getElem h]
  simp only [List.getD, List.getElem?_eq_getElem h, Option.toList, Option.getD]
theorem most_c {T : St} {l : List Nat} (hl : l.length ≤ 64) (hi64 : ∀ t, t ∈ l → t < 64) (h5 : gI T 104 5 = nI l.length) (h8 : ∀ j, j < l.length → gI T 108 j = nI (l.getD j 0)) {v b : Nat} (hv : v ≤ 7) (hb : b ≤ 9) : ∃ T', f_X3_mostLeft (nI v) (nI b) T = some (nI (ofA v b l).2, T') ∧ oF T T' ∧ gI T' 104 5 = gI T 104 5 ∧ ∀ j, gI T' 108 j = gI T 108 j := by
  obtain ⟨T1, s1, s2, s3, s4, s5⟩ := zer_c (nI v) (nI b) T (fun v12 S13 => lp (f_X3_mostLeft_26b (nI v) (nI b) (fun v14 S15 => some (v14.1, S15))) FU ((0 : Int32), (0 : Int32)) S13)
  have h := lp_ex (body := f_X3_mostLeft_26b (nI v) (nI b) (fun v14 S15 => some (v14.1, S15))) (Q := fun z => ∃ T', z = some (nI (ofA v b l).2, T') ∧ oF T T' ∧ gI T' 104 5 = gI T 104 5 ∧ ∀ j, gI T' 108 j = gI T 108 j) l.length (fun i u S => u = (nI (ofA v b (l.take i)).2, nI i) ∧ oF T S ∧ gI S 104 5 = gI T 104 5 ∧ (∀ j, gI S 108 j = gI T 108 j) ∧ ∀ w, w < 8 → gI S 109 w = nI ((ofA v b (l.take i)).1 w)) (fun i k u S hi hI => ?_) (fun k u S hI => ?_) FU 0 ((0 : Int32), (0 : Int32)) T1 (by omega) (by unfold FU; omega) ⟨rfl, s2, s3, s4, s5⟩
  · obtain ⟨T', e, w⟩ := h
    exact ⟨T', s1.trans e, w⟩
  · obtain ⟨rfl, q, q2, q3, w⟩ := hI
    have ht : l.getD i 0 < 64 := by
      apply hi64
      simp only [List.getD, List.getElem?_eq_getElem hi, Option.getD]
      exact List.getElem_mem hi
    obtain ⟨o1, o2, o3⟩ := of_b v b (l.take i) i (by rw [List.length_take]; omega)
    have l8 := lw8 (l.getD i 0) v b
    have e8 : gI S 108 i = nI (l.getD i 0) := (q3 i).trans (h8 i hi)
    rw [tkA l hi, ofA_a]
    generalize hk : lwN (l.getD i 0) v b = kk at l8
    have ek : lwI (nI (l.getD i 0)) (nI v) (nI b) = nI kk := by rw [lw_n ht hv hb, hk]
    generalize ofA v b (l.take i) = a at o1 o2 o3 w
    have ow := o1 kk
    refine ⟨(nI (ofS kk a).2, nI (i + 1)), sI S 109 kk (nI (a.1 kk + 1)), ?_, rfl, q.sI rfl, q2, q3, fun j hj => ?_⟩
    · have w8 : inb (nI kk) 8 := by rw [inb_nI (by omega)]; omega
      unfold f_X3_mostLeft_26b
      simp only
      rw [q2, h5, if_neg (by rw [nLe (by omega) (by omega)]; omega), if_pos (show inb (nI i) 64 by rw [inb_nI (by omega)]; omega), nI_t (by omega), e8, law_c, bd_e, ek]
      simp only [if_pos w8, nI_t (show kk < 2147483648 by omega), lt_e, w kk l8]
      rw [gI_s, if_pos rfl, if_pos rfl, show nI (a.1 kk) + (1 : Int32) = nI (a.1 kk + 1) from nAdd _ _, mxNI (by omega) (by omega), a1]
      rfl
    · rw [gI_s, if_pos rfl]
      show _ = nI (if j = kk then _ else _)
      by_cases e : j = kk
      · rw [if_pos e, if_pos e, e]
      · rw [if_neg e, if_neg e]; exact w j hj
  · obtain ⟨rfl, q, q2, q3, w⟩ := hI
    rw [List.take_length]
    refine ⟨S, ?_, q, q2, q3⟩
    unfold f_X3_mostLeft_26b
    rw [q2, h5, if_pos (by rw [nLe (by omega) (by omega)]; omega)]
theorem zer_m (x1 x2 x3 x4 : Int32) (T : St) (e : Int32 → St → Option (Int32 × St)) : ∃ T', lp (f_X11_listens_26b x1 x2 x3 x4 e) FU 0 T = e (nI 8) T' ∧ oN T T' ∧ ∀ w, w < 8 → gI T' 144 w = nI 0 := by
  have h := lp_ex (body := f_X11_listens_26b x1 x2 x3 x4 e) (Q := fun z => ∃ T', z = e (nI 8) T' ∧ oN T T' ∧ ∀ w, w < 8 → gI T' 144 w = nI 0) 8 (fun i v S => v = nI i ∧ oN T S ∧ ∀ w, w < i → gI S 144 w = nI 0) (fun i k v S hi hI => ?_) (fun k v S hI => ?_) FU 0 (0 : Int32) T (by omega) (by unfold FU; omega) ⟨rfl, Sm.rf T, fun w hw => by omega⟩
  · exact h
  · obtain ⟨rfl, q, w⟩ := hI
    refine ⟨nI (i + 1), sI S 144 i 0, ?_, rfl, q.sI rfl, fun j hj => ?_⟩
    · unfold f_X11_listens_26b
      rw [if_neg (nLe8 hi), if_pos (show inb (nI i) 8 by rw [inb_nI (by omega)]; omega), lt_e, nI_t (by omega), a1]
    · rw [gI_s, if_pos rfl]
      by_cases e : j = i
      · rw [if_pos e]; rfl
      · rw [if_neg e]; exact w j (by omega)
  · obtain ⟨rfl, q, w⟩ := hI
    refine ⟨S, ?_, q, w⟩
    unfold f_X11_listens_26b
    rw [if_pos (show (8 : Int32) ≤ nI 8 by decide)]
theorem most_m {T : St} {q : Nat} {hv hb ha : Nat → Int32} (h : HeM T q hv hb ha) {p : Nat → Bool} (hp : lwB q hv hb ha = p) (hz : ∀ w, w < 8 → gI T 144 w = nI 0) {x : Nat} (hx : x < 80) (x1 x2 : Int32) (e : Int32 × Int32 → St → Option (Int32 × St)) : ∃ T', lp (f_X11_listens_50b x1 x2 (nI x) e) FU (0, 0) T = e (nI (ofA (x / 10) (x % 10) (fitL p 64)).2, nI 64) T' ∧ oN T T' := by
  have h0 := lp_ex (body := f_X11_listens_50b x1 x2 (nI x) e) (Q := fun z => ∃ T', z = e (nI (ofA (x / 10) (x % 10) (fitL p 64)).2, nI 64) T' ∧ oN T T') 64 (fun i u S => u = (nI (ofA (x / 10) (x % 10) (fitL p i)).2, nI i) ∧ oN T S ∧ ∀ w, w < 8 → gI S 144 w = nI ((ofA (x / 10) (x % 10) (fitL p i)).1 w)) (fun i k u S hi hI => ?_) (fun k u S hI => ?_) FU 0 ((0 : Int32), (0 : Int32)) T (by omega) (by unfold FU; omega) ⟨rfl, Sm.rf T, hz⟩
  · exact h0
  · obtain ⟨rfl, w1, w⟩ := hI
    have hH : HeM S q hv hb ha := h.q w1.q
    have e1 := lwB_m hH i
    rw [hp] at e1
    obtain ⟨o1, o2, o3⟩ := of_b (x / 10) (x % 10) (fitL p i) _ rfl
    have hl := fit_le p i
    unfold f_X11_listens_50b f_X11_listens_106
    simp only
    rw [if_neg (show ¬ (64 : Int32) ≤ nI i by rw [lit, nLe (by omega) (by omega)]; omega), e1, bd_e, fitL]
    cases g : p i with
    | false =>
      refine ⟨_, S, by rw [if_pos (show flI false = 0 from rfl), a1, if_neg (by simp)], rfl, w1, ?_⟩
      rw [if_neg (by simp)]; exact w
    | true =>
      rw [if_neg (show ¬ flI true = 0 by decide), if_pos rfl, ofA_a]
      have l8 := lw8 i (x / 10) (x % 10)
      generalize hk : lwN i (x / 10) (x % 10) = kk at l8
      have ek : lwI (nI i) (nI x / 10) (nI x - nI x / 10 * 10) = nI kk := by
        rw [show (10 : Int32) = nI 10 from rfl, nRem (by omega) (by omega), nDiv (by omega) (by omega), lw_n hi (by omega) (by omega), hk]
      generalize ofA (x / 10) (x % 10) (fitL p i) = a at o1 o2 o3 w
      have ow := o1 kk
      refine ⟨(nI (ofS kk a).2, nI (i + 1)), sI S 144 kk (nI (a.1 kk + 1)), ?_, rfl, w1.sI rfl, fun j hj => ?_⟩
      · have w8 : inb (nI kk) 8 := by rw [inb_nI (by omega)]; omega
        rw [law_m, bd_e, ek]
        simp only [if_pos w8, nI_t (show kk < 2147483648 by omega), lt_e, w kk l8]
        rw [gI_s, if_pos rfl, if_pos rfl, show nI (a.1 kk) + (1 : Int32) = nI (a.1 kk + 1) from nAdd _ _, mxNI (by omega) (by omega), a1]
        rfl
      · rw [gI_s, if_pos rfl]
        show _ = nI (if j = kk then _ else _)
        by_cases e : j = kk
        · rw [if_pos e, if_pos e, e]
        · rw [if_neg e, if_neg e]; exact w j hj
  · obtain ⟨rfl, w1, w⟩ := hI
    refine ⟨S, ?_, w1⟩
    unfold f_X11_listens_50b
    rw [if_pos (show (64 : Int32) ≤ nI 64 by decide)]
def liS (p : Nat → Bool) (x : Nat) (a : Option (Nat × Nat)) : Option (Nat × Nat) := match a with
  | none => some (x, (ofA (x / 10) (x % 10) (fitL p 64)).2)
  | some (y, l) => if (ofA (x / 10) (x % 10) (fitL p 64)).2 < l then some (x, (ofA (x / 10) (x % 10) (fitL p 64)).2) else some (y, l)
def liA (p : Nat → Bool) : Nat → Option (Nat × Nat) := itN (liS p) none
def liV (p : Nat → Bool) (x : Nat) : Nat := (ofA (x / 10) (x % 10) (fitL p 64)).2
theorem liV_le (p : Nat → Bool) (x : Nat) : liV p x ≤ 64 := by
  have := (of_b (x / 10) (x % 10) (fitL p 64) _ rfl).2.1
  have := fit_le p 64
  unfold liV; omega
theorem liA_le (p : Nat → Bool) : ∀ i a, liA p i = some a → a.2 ≤ 64 ∧ a.1 < i := by
  intro i
  induction i with
  | zero => intro a h; cases h
  | succ i ih =>
    intro a h
    have e : liA p (i + 1) = liS p i (liA p i) := rfl
    rw [e] at h
    cases g : liA p i with
    | none => rw [g, liS] at h; cases h; exact ⟨liV_le p i, by show i < i + 1; omega⟩
    | some z =>
      rw [g] at h
      obtain ⟨y, l⟩ := z
      simp only [liS] at h
      split at h
      · cases h; exact ⟨liV_le p i, by show i < i + 1; omega⟩
      · cases h; have := ih _ g; exact ⟨this.1, by have := this.2; omega⟩
theorem lis_c (p : Nat → Bool) (i d : Nat) (hd : 65 ≤ d) (a : Option (Nat × Nat)) : (nxL d a ≤ liV p i → nxB (liS p i a) = nxB a ∧ nxL d (liS p i a) = nxL d a) ∧ (¬ nxL d a ≤ liV p i → nxB (liS p i a) = nI i ∧ nxL d (liS p i a) = liV p i) := by
  have hv := liV_le p i
  cases a with
  | none =>
    refine ⟨fun h => ?_, fun _ => ⟨rfl, rfl⟩⟩
    change d ≤ _ at h; omega
  | some z =>
    obtain ⟨y, l⟩ := z
    refine ⟨fun h => ?_, fun h => ?_⟩
    · change l ≤ _ at h
      have e : liS p i (some (y, l)) = some (y, l) := by simp only [liS]; rw [if_neg (by unfold liV at h; omega)]
      rw [e]; exact ⟨rfl, rfl⟩
    · change ¬ l ≤ _ at h
      have e : liS p i (some (y, l)) = some (i, liV p i) := by simp only [liS]; rw [if_pos (by unfold liV at h; omega)]; rfl
      rw [e]; exact ⟨rfl, rfl⟩
theorem li_lt (p : Nat → Bool) (i d : Nat) (hd2 : d < 2147483648) : nxL d (liA p i) < 2147483648 := by
  cases e : liA p i with
  | none => exact hd2
  | some z => have := liA_le p i z e; show z.2 < _; omega
theorem li_nm (p : Nat → Bool) (i : Nat) : liA p (i + 1) ≠ none := by
  intro e
  have e2 : liA p (i + 1) = liS p i (liA p i) := rfl
  rw [e2] at e
  cases g : liA p i with
  | none => rw [g] at e; cases e
  | some z => rw [g] at e; obtain ⟨y, l⟩ := z; simp only [liS] at e; split at e <;> cases e
/-- the best as the reference has it before anything is heard so -/
def liB : Option (Nat × Nat) → Int32
  | none => -2
  | some a => nI a.1
theorem lii_c {T : St} {p : Nat → Bool} (h5 : gI T 104 5 = nI (fitL p 64).length) (h8 : ∀ j, j < (fitL p 64).length → gI T 108 j = nI ((fitL p 64).getD j 0)) {v : Nat} (hv : v ≤ 7) (e : Int32 × Int32 × Int32 → St → Option (Int32 × St)) : ∃ T', lp (f_X10_listens_36b (nI v) e) FU (nxB (liA p (10 * v)), nI (nxL 65 (liA p (10 * v))), 0) T = e (nxB (liA p (10 * v + 10)), nI (nxL 65 (liA p (10 * v + 10))), nI 10) T' ∧ oF T T' ∧ gI T' 104 5 = gI T 104 5 ∧ ∀ j, gI T' 108 j = gI T 108 j := by
  have hl := fit_le p 64
  have h := lp_ex (body := f_X10_listens_36b (nI v) e) (Q := fun z => ∃ T', z = e (nxB (liA p (10 * v + 10)), nI (nxL 65 (liA p (10 * v + 10))), nI 10) T' ∧ oF T T' ∧ gI T' 104 5 = gI T 104 5 ∧ ∀ j, gI T' 108 j = gI T 108 j) 10 (fun i u S => u = (nxB (liA p (10 * v + i)), nI (nxL 65 (liA p (10 * v + i))), nI i) ∧ oF T S ∧ gI S 104 5 = gI T 104 5 ∧ ∀ j, gI S 108 j = gI T 108 j) (fun i k u S hi hI => ?_) (fun k u S hI => ?_) FU 0 (nxB (liA p (10 * v)), nI (nxL 65 (liA p (10 * v))), (0 : Int32)) T (by omega) (by unfold FU; omega) ⟨rfl, Sm.rf T, rfl, fun _ => rfl⟩
  · exact h
  · obtain ⟨rfl, q, q2, q3⟩ := hI
    obtain ⟨T', m1', m2, m3, m4⟩ := most_c (T := S) (l := fitL p 64) hl (fit_in p 64) (q2.trans h5) (fun j hj => (q3 j).trans (h8 j hj)) hv (show i ≤ 9 by omega)
    refine ⟨_, T', ?_, rfl, q.tr m2, m3.trans q2, fun j => (m4 j).trans (q3 j)⟩
    have e1 : (ofA v i (fitL p 64)).2 = liV p (10 * v + i) := by
      unfold liV
      rw [show (10 * v + i) / 10 = v by omega, show (10 * v + i) % 10 = i by omega]
    have hv' := liV_le p (10 * v + i)
    have hlt := li_lt p (10 * v + i) 65 (by omega)
    obtain ⟨x1, x2⟩ := lis_c p (10 * v + i) 65 (by omega) (liA p (10 * v + i))
    have es : liA p (10 * v + (i + 1)) = liS p (10 * v + i) (liA p (10 * v + i)) := rfl
    rw [es]
    unfold f_X10_listens_36b f_X10_listens_72
    simp only
    rw [if_neg (show ¬ (9 : Int32) < nI i by rw [lit, nLt (by omega) (by omega)]; omega), m1', bd_e, e1]
    by_cases g : nxL 65 (liA p (10 * v + i)) ≤ liV p (10 * v + i)
    · rw [if_pos (by rw [nLe (by omega) (by omega)]; exact g), (x1 g).1, (x1 g).2, a1]
    · rw [if_neg (by rw [nLe (by omega) (by omega)]; exact g), (x2 g).1, (x2 g).2, a1, lt_e, show (10 : Int32) = nI 10 from rfl, nMul, nAdd]
  · obtain ⟨rfl, q, q2, q3⟩ := hI
    refine ⟨S, ?_, q, q2, q3⟩
    unfold f_X10_listens_36b
    rw [if_pos (show (9 : Int32) < nI 10 by decide)]
theorem eq_listens : EQ1 RelP f_X10_listens f_X11_listens := by
  apply qr
  intro S c o r hS ok hC hM
  obtain ⟨q, hv, hb, ha, hH, hG⟩ := hS.he
  generalize hp : lwB q hv hb ha = p
  have hl := fit_le p 64
  obtain ⟨T1, s1, s2, s3, s4⟩ := find_c hH
  rw [hp] at s3 s4
  by_cases hz : (fitL p 64).length = 0
  · refine ⟨-2, none, (fun l e => by cases e), ?_, fun S1 hM1 q1 => ?_⟩
    · refine AC.n (S1 := T1) ?_ s2.q (s2.1 10 1 rfl) (fun k => s2.2 11 k rfl)
      unfold f_X10_listens
      rw [s1, bd_e, s3, hz, if_pos z00]
    · unfold f_X11_listens
      rw [lt_e]
      have hG1 : HeM S1 q hv hb ha := hG.c q1
      have h0 := lp_ex (body := f_X11_listens_14b (fun v19 S20 => (if v19.1 < 0 then some (v19.1, S20) else lt (sI S20 122 1 (0 : Int32)) (fun S21 => bd (f_X11_enters v19.2.1.toInt64 S21) (fun r22 S23 => some (v19.1, S23)))))) (Q := fun z => AM z S1 (-2) none) 80 (fun i u T => u = ((-2 : Int32), (1000000 : Int32), nI i) ∧ oN (sI S1 122 0 0) T) (fun i k u T hi hI => ?_) (fun k u T hI => ?_) FU 0 ((-2 : Int32), (1000000 : Int32), (0 : Int32)) (sI S1 122 0 0) (by omega) (by unfold FU; omega) ⟨rfl, Sm.rf _⟩
      · exact h0
      · obtain ⟨rfl, w1⟩ := hI
        obtain ⟨T2, t1, t2, t3⟩ := zer_m (-2) 1000000 (nI i) 0 T (fun v14 S15 => lp (f_X11_listens_50b (-2) 1000000 (nI i) (fun v16 S17 => (if v16.1 ≤ 0 then f_X11_listens_127 (-2) 1000000 (nI i) v16.1 k (fun v19 S20 => (if v19.1 < 0 then some (v19.1, S20) else lt (sI S20 122 1 (0 : Int32)) (fun S21 => bd (f_X11_enters v19.2.1.toInt64 S21) (fun r22 S23 => some (v19.1, S23))))) S17 else (if (1000000 : Int32) ≤ v16.1 then f_X11_listens_127 (-2) 1000000 (nI i) v16.1 k (fun v19 S20 => (if v19.1 < 0 then some (v19.1, S20) else lt (sI S20 122 1 (0 : Int32)) (fun S21 => bd (f_X11_enters v19.2.1.toInt64 S21) (fun r22 S23 => some (v19.1, S23))))) S17 else f_X11_listens_128 1000000 (nI i) v16.1 (nI i) k (fun v19 S20 => (if v19.1 < 0 then some (v19.1, S20) else lt (sI S20 122 1 (0 : Int32)) (fun S21 => bd (f_X11_enters v19.2.1.toInt64 S21) (fun r22 S23 => some (v19.1, S23))))) S17)))) FU ((0 : Int32), (0 : Int32)) S15)
        obtain ⟨T3, u1, u2⟩ := most_m (T := T2) (((hG1.q (q00 S1 0)).q w1.q).q t2.q) hp t3 hi (-2) 1000000 (fun v16 S17 => (if v16.1 ≤ 0 then f_X11_listens_127 (-2) 1000000 (nI i) v16.1 k (fun v19 S20 => (if v19.1 < 0 then some (v19.1, S20) else lt (sI S20 122 1 (0 : Int32)) (fun S21 => bd (f_X11_enters v19.2.1.toInt64 S21) (fun r22 S23 => some (v19.1, S23))))) S17 else (if (1000000 : Int32) ≤ v16.1 then f_X11_listens_127 (-2) 1000000 (nI i) v16.1 k (fun v19 S20 => (if v19.1 < 0 then some (v19.1, S20) else lt (sI S20 122 1 (0 : Int32)) (fun S21 => bd (f_X11_enters v19.2.1.toInt64 S21) (fun r22 S23 => some (v19.1, S23))))) S17 else f_X11_listens_128 1000000 (nI i) v16.1 (nI i) k (fun v19 S20 => (if v19.1 < 0 then some (v19.1, S20) else lt (sI S20 122 1 (0 : Int32)) (fun S21 => bd (f_X11_enters v19.2.1.toInt64 S21) (fun r22 S23 => some (v19.1, S23))))) S17)))
        refine ⟨_, T3, ?_, rfl, (w1.tr t2).tr u2⟩
        have e0 : (ofA (i / 10) (i % 10) (fitL p 64)).2 = 0 := by
          have := (of_b (i / 10) (i % 10) (fitL p 64) _ rfl).2.1
          omega
        unfold f_X11_listens_14b
        simp only
        rw [if_neg (show ¬ (80 : Int32) ≤ nI i by rw [lit, nLe (by omega) (by omega)]; omega)]
        refine t1.trans (u1.trans ?_)
        simp only [e0]
        rw [if_pos (show nI 0 ≤ 0 by decide)]
        unfold f_X11_listens_127 f_X11_listens_128 f_X11_listens_144
        rw [if_pos (show nI 0 ≤ 0 by decide), a1]
      · obtain ⟨rfl, w1⟩ := hI
        refine AM.n (S1 := T) ?_ ((q00 S1 0).tr w1.q) (w1.1 122 1 rfl) (fun k => w1.2 123 k rfl)
        unfold f_X11_listens_14b
        rw [if_pos (show (80 : Int32) ≤ nI 80 by decide)]
        dsimp only
        rw [if_pos (show (-2 : Int32) < 0 by decide)]
  · have dd : nxL 65 (liA p 80) = nxL 1000000 (liA p 80) ∧ nxB (liA p 80) = liB (liA p 80) := by
      cases e : liA p 80 with
      | none => exact absurd e (li_nm p 79)
      | some z => exact ⟨rfl, rfl⟩
    refine ⟨nxB (liA p 80), some [(nI (nxL 65 (liA p 80))).toInt64], (fun l e => by cases e; simp), ?_, fun S1 hM1 q1 => ?_⟩
    · unfold f_X10_listens
      rw [s1, bd_e, s3, if_neg (show ¬ nI (fitL p 64).length = 0 by rw [lit, nEq (by omega) (by omega)]; exact hz)]
      have h0 := lp_ex (body := f_X10_listens_27b (fun v10 S11 => bd (f_X5_begin S11) (fun r12 S13 => bd (f_X5_put v10.2.1.toInt64 S13) (fun r15 S16 => some (v10.1, S16))))) (Q := fun z => AC z S (nxB (liA p 80)) (some [(nI (nxL 65 (liA p 80))).toInt64])) 8 (fun i u T => u = (nxB (liA p (10 * i)), nI (nxL 65 (liA p (10 * i))), nI i) ∧ oF T1 T ∧ gI T 104 5 = gI T1 104 5 ∧ ∀ j, gI T 108 j = gI T1 108 j) (fun i k u T hi hI => ?_) (fun k u T hI => ?_) FU 0 ((-1 : Int32), (65 : Int32), (0 : Int32)) T1 (by omega) (by unfold FU; omega) ⟨rfl, Sm.rf _, rfl, fun _ => rfl⟩
      · exact h0
      · obtain ⟨rfl, w1, w2, w3⟩ := hI
        obtain ⟨T2, t1, t2, t3, t4⟩ := lii_c (T := T) (p := p) (w2.trans s3) (fun j hj => (w3 j).trans (s4 j hj)) (show i ≤ 7 by omega) (fun v5 S6 => k (v5.1, v5.2.1, (nI i + (1 : Int32))) S6)
        refine ⟨_, T2, ?_, rfl, w1.tr t2, t3.trans w2, fun j => (t4 j).trans (w3 j)⟩
        unfold f_X10_listens_27b
        simp only
        rw [if_neg (nLe8 hi)]
        refine t1.trans ?_
        simp only
        rw [a1, show 10 * i + 10 = 10 * (i + 1) by omega]
      · obtain ⟨rfl, w1, w2, w3⟩ := hI
        obtain ⟨T2, t1, t2, t3, t4⟩ := put_e (nI (nxL 65 (liA p 80))).toInt64 (RwC.nil T) (by simp)
        refine AC.y (S1 := T2) ?_ (((s2.q.tr w1.q).tr (q10 T 0)).tr t2) t3
        unfold f_X10_listens_27b
        rw [if_pos (show (8 : Int32) ≤ nI 8 by decide)]
        dsimp only
        rw [begin_e, bd_e, t1, bd_e]
    · unfold f_X11_listens
      rw [lt_e]
      have hG1 : HeM S1 q hv hb ha := hG.c q1
      have h0 := lp_ex (body := f_X11_listens_14b (fun v19 S20 => (if v19.1 < 0 then some (v19.1, S20) else lt (sI S20 122 1 (0 : Int32)) (fun S21 => bd (f_X11_enters v19.2.1.toInt64 S21) (fun r22 S23 => some (v19.1, S23)))))) (Q := fun z => AM z S1 (nxB (liA p 80)) (some [(nI (nxL 65 (liA p 80))).toInt64])) 80 (fun i u T => u = (liB (liA p i), nI (nxL 1000000 (liA p i)), nI i) ∧ oN (sI S1 122 0 0) T) (fun i k u T hi hI => ?_) (fun k u T hI => ?_) FU 0 ((-2 : Int32), (1000000 : Int32), (0 : Int32)) (sI S1 122 0 0) (by omega) (by unfold FU; omega) ⟨rfl, Sm.rf _⟩
      · exact h0
      · obtain ⟨rfl, w1⟩ := hI
        generalize hA : liB (liA p i) = A1
        generalize hB : nI (nxL 1000000 (liA p i)) = B1
        generalize hE : (fun (v19 : Int32 × Int32 × Int32) (S20 : St) => (if v19.1 < 0 then some (v19.1, S20) else lt (sI S20 122 1 (0 : Int32)) (fun S21 => bd (f_X11_enters v19.2.1.toInt64 S21) (fun r22 S23 => some (v19.1, S23))))) = E1
        obtain ⟨T2, t1, t2, t3⟩ := zer_m A1 B1 (nI i) 0 T (fun v14 S15 => lp (f_X11_listens_50b A1 B1 (nI i) (fun v16 S17 => (if v16.1 ≤ 0 then f_X11_listens_127 A1 B1 (nI i) v16.1 k E1 S17 else (if B1 ≤ v16.1 then f_X11_listens_127 A1 B1 (nI i) v16.1 k E1 S17 else f_X11_listens_128 B1 (nI i) v16.1 (nI i) k E1 S17)))) FU ((0 : Int32), (0 : Int32)) S15)
        obtain ⟨T3, u1, u2⟩ := most_m (T := T2) (((hG1.q (q00 S1 0)).q w1.q).q t2.q) hp t3 hi A1 B1 (fun v16 S17 => (if v16.1 ≤ 0 then f_X11_listens_127 A1 B1 (nI i) v16.1 k E1 S17 else (if B1 ≤ v16.1 then f_X11_listens_127 A1 B1 (nI i) v16.1 k E1 S17 else f_X11_listens_128 B1 (nI i) v16.1 (nI i) k E1 S17)))
        refine ⟨_, T3, ?_, rfl, (w1.tr t2).tr u2⟩
        have e0 : 0 < liV p i := (of_b (i / 10) (i % 10) (fitL p 64) _ rfl).2.2 (by omega)
        have hv' := liV_le p i
        have hlt := li_lt p i 1000000 (by omega)
        obtain ⟨x1, x2⟩ := lis_c p i 1000000 (by omega) (liA p i)
        have es : liA p (i + 1) = liS p i (liA p i) := rfl
        have eb : nxL 1000000 (liA p i) ≤ liV p i → liB (liS p i (liA p i)) = liB (liA p i) := by
          intro g
          cases e : liA p i with
          | none => rw [e] at g; change 1000000 ≤ _ at g; omega
          | some z =>
            obtain ⟨y, l⟩ := z
            rw [e] at g
            change l ≤ _ at g
            simp only [liS]
            rw [if_neg (by unfold liV at g; omega)]
        have eb2 : ¬ nxL 1000000 (liA p i) ≤ liV p i → liB (liS p i (liA p i)) = nI i := by
          intro g
          cases e : liA p i with
          | none => rfl
          | some z =>
            obtain ⟨y, l⟩ := z
            rw [e] at g
            change ¬ l ≤ _ at g
            simp only [liS]
            rw [if_pos (by unfold liV at g; omega)]
            rfl
        unfold f_X11_listens_14b
        simp only
        rw [if_neg (show ¬ (80 : Int32) ≤ nI i by rw [lit, nLe (by omega) (by omega)]; omega)]
        refine t1.trans (u1.trans ?_)
        simp only
        show (if nI (liV p i) ≤ 0 then f_X11_listens_127 A1 B1 (nI i) (nI (liV p i)) k E1 T3 else (if B1 ≤ nI (liV p i) then f_X11_listens_127 A1 B1 (nI i) (nI (liV p i)) k E1 T3 else f_X11_listens_128 B1 (nI i) (nI (liV p i)) (nI i) k E1 T3)) = _
        have z1 : ¬ nI (liV p i) ≤ 0 := by rw [lit, nLe (by omega) (by omega)]; omega
        rw [if_neg z1, ← hB, ← hA, es]
        unfold f_X11_listens_127 f_X11_listens_128 f_X11_listens_144
        by_cases g : nxL 1000000 (liA p i) ≤ liV p i
        · rw [if_pos (by rw [nLe (by omega) (by omega)]; exact g), if_neg z1, eb g, (x1 g).2, mnNI (by omega) (by omega), Nat.min_eq_left g, a1]
        · rw [if_neg (by rw [nLe (by omega) (by omega)]; exact g), if_neg z1, eb2 g, (x2 g).2, mnNI (by omega) (by omega), Nat.min_eq_right (by omega), a1]
      · obtain ⟨rfl, w1⟩ := hI
        obtain ⟨T2, t1, t2, t3, t4⟩ := ent_e (nI (nxL 65 (liA p 80))).toInt64 (RwM.nil T) (by simp)
        refine AM.y (S1 := T2) ?_ ((((q00 S1 0).tr w1.q).tr (q01 T 0)).tr t2) t3
        unfold f_X11_listens_14b
        rw [if_pos (show (80 : Int32) ≤ nI 80 by decide)]
        dsimp only
        have nn : ¬ liB (liA p 80) < 0 := by
          cases e : liA p 80 with
          | none => exact absurd e (li_nm p 79)
          | some z => have := (liA_le p 80 z e).2; exact not_neg (by omega)
        rw [if_neg nn, lt_e, ← dd.1, t1, bd_e, ← dd.2]
