/-! tour -/
def tmF (F : Nat → Nat → Nat) (tb : Nat → Nat → Nat) (left a d l : Nat) : Nat := if left.testBit d = true then min l (F a d + tb (clrN left d) d) else l
def tmV (F : Nat → Nat → Nat) (st : Nat) (tb : Nat → Nat → Nat) (left a : Nat) : Nat → Nat := itN (tmF F tb left a) (if left = 0 then F a st else 1000000)
def tmT (F : Nat → Nat → Nat) (st : Nat) : Nat → Nat → Nat → Nat
  | 0 => fun _ _ => 0
  | i + 1 => fun l a => if l = i then tmV F st (tmT F st i) i a 8 else tmT F st i l a
theorem tmT_s (F : Nat → Nat → Nat) (st i l a : Nat) : tmT F st (i + 1) l a = if l = i then tmV F st (tmT F st i) i a 8 else tmT F st i l a := rfl
def tm (F : Nat → Nat → Nat) (st l a : Nat) : Nat := tmT F st (l + 1) l a
theorem tm_st (F : Nat → Nat → Nat) (st l a : Nat) : ∀ d, tmT F st (l + 1 + d) l a = tm F st l a := by
  intro d
  induction d with
  | zero => rfl
  | succ d ih => rw [← Nat.add_assoc, tmT_s, if_neg (by omega), ih]
theorem tm_lt {F : Nat → Nat → Nat} {st i l a : Nat} (h : l < i) : tmT F st i l a = tm F st l a := by
  have := tm_st F st l a (i - (l + 1))
  rw [show l + 1 + (i - (l + 1)) = i by omega] at this
  exact this
theorem clr_lt {x d : Nat} (h : x.testBit d = true) (hd : d < 32) : clrN x d < x := by
  have h1 := clrN_le x d
  have h2 : clrN x d ≠ x := by
    intro e
    have := clr_tb (a := x) (n := d) (i := d) hd
    change (clrN x d).testBit d = _ at this
    rw [e, h] at this
    simp at this
  omega
theorem tm_e (F : Nat → Nat → Nat) (st left a : Nat) : tm F st left a = tmV F st (tm F st) left a 8 := by
  have e : tm F st left a = tmV F st (tmT F st left) left a 8 := by unfold tm; rw [tmT_s, if_pos rfl]
  rw [e]
  unfold tmV
  apply itN_cg
  intro d l hd
  unfold tmF
  by_cases g : left.testBit d = true
  · rw [if_pos g, if_pos g, tm_lt (clr_lt g (by omega))]
  · rw [if_neg g, if_neg g]
theorem tv_le (F : Nat → Nat → Nat) (tb : Nat → Nat → Nat) (left a z : Nat) : ∀ n, itN (tmF F tb left a) z n ≤ z := by
  intro n
  induction n with
  | zero => exact Nat.le_refl _
  | succ n ih =>
    rw [itN_s, tmF]
    split <;> omega
theorem tv_d (F : Nat → Nat → Nat) (tb : Nat → Nat → Nat) (left a z : Nat) : ∀ n d, d < n → left.testBit d = true → itN (tmF F tb left a) z n ≤ F a d + tb (clrN left d) d := by
  intro n
  induction n with
  | zero => intro d h; omega
  | succ n ih =>
    intro d hd hs
    rw [itN_s, tmF]
    by_cases e : d = n
    · subst e; rw [if_pos hs]; omega
    · have := ih d (by omega) hs
      split <;> omega
theorem tv_ex (F : Nat → Nat → Nat) (tb : Nat → Nat → Nat) (left a z : Nat) : ∀ n, itN (tmF F tb left a) z n = z ∨ ∃ d, d < n ∧ left.testBit d = true ∧ itN (tmF F tb left a) z n = F a d + tb (clrN left d) d := by
  intro n
  induction n with
  | zero => exact Or.inl rfl
  | succ n ih =>
    rw [itN_s, tmF]
    by_cases g : left.testBit n = true
    · rw [if_pos g]
      by_cases e : F a n + tb (clrN left n) n ≤ itN (tmF F tb left a) z n
      · exact Or.inr ⟨n, by omega, g, by omega⟩
      · rcases ih with h | ⟨d, h1, h2, h3⟩
        · exact Or.inl (by omega)
        · exact Or.inr ⟨d, by omega, h2, by omega⟩
    · rw [if_neg g]
      rcases ih with h | ⟨d, h1, h2, h3⟩
      · exact Or.inl h
      · exact Or.inr ⟨d, by omega, h2, h3⟩
theorem tm_le {c : Cv} {o st : Nat} : ∀ left a, tm (dM c o) st left a ≤ 1000000 := by
  intro left a
  rw [tm_e]
  have := tv_le (dM c o) (tm (dM c o) st) left a (if left = 0 then dM c o a st else 1000000) 8
  have h2 := dM_le c o a st
  have h3 : (if left = 0 then dM c o a st else 1000000) ≤ 1000000 := by split <;> omega
  exact Nat.le_trans this h3
/-- a part of those joined -/
def inJ (c : Cv) (o st left : Nat) : Prop := ∀ d, left.testBit d = true → d < 8 ∧ jnB c o st d = true
theorem inJ.clr {c : Cv} {o st left d : Nat} (h : inJ c o st left) : inJ c o st (clrN left d) := by
  intro i hi
  apply h
  unfold clrN at hi
  rw [Nat.testBit_and] at hi
  simp at hi; exact hi.1
theorem tm_fin {c : Cv} (ok : Cok c) {o st : Nat} (hst : st < 8) : ∀ n left, left ≤ n → inJ c o st left → ∀ a, a < 8 → jnB c o st a = true → tm (dM c o) st left a ≤ 63 * (left + 1) := by
  intro n
  induction n with
  | zero =>
    intro left hl hJ a ha hj
    have e : left = 0 := by omega
    subst e
    rw [tm_e]
    have h1 := tv_le (dM c o) (tm (dM c o) st) 0 a (if 0 = 0 then dM c o a st else 1000000) 8
    rw [if_pos rfl] at h1
    have js := jn_sym ok hst ha hj
    have h2 := dN_63 ok (o := o) ha hst (of_decide_eq_true js)
    rw [dM_n js] at h1
    unfold tmV
    rw [if_pos rfl, dM_n js]
    omega
  | succ n ih =>
    intro left hl hJ a ha hj
    by_cases e : left ≤ n
    · exact ih left e hJ a ha hj
    · have hne : left ≠ 0 := by omega
      obtain ⟨d, hd⟩ : ∃ d, left.testBit d = true := Nat.exists_testBit_of_ne_zero hne
      obtain ⟨h8, hjd⟩ := hJ d hd
      have hc := clr_lt hd (by omega)
      have h1 := tv_d (dM c o) (tm (dM c o) st) left a (if left = 0 then dM c o a st else 1000000) 8 d h8 hd
      have h2 := ih (clrN left d) (by omega) hJ.clr d h8 hjd
      have ja := jn_tr ok ha hst (jn_sym ok hst ha hj) hjd
      have h3 := dN_63 ok (o := o) ha h8 (of_decide_eq_true ja)
      rw [dM_n ja] at h1
      rw [tm_e]
      unfold tmV
      omega
/-- what lies ahead by d -/
def tgN (c : Cv) (o st left a d : Nat) : Nat := dN c o a d + tm (dM c o) st (clrN left d) d
def amS (c : Cv) (o st left a d : Nat) (b : Option Nat) : Option Nat := if left.testBit d = true then (match b with
  | none => some d
  | some e => if tgN c o st left a d < tgN c o st left a e then some d else some e) else b
def amA (c : Cv) (o st left a : Nat) : Nat → Option Nat := itN (amS c o st left a) none
theorem amA_s (c : Cv) (o st left a i : Nat) : amA c o st left a (i + 1) = amS c o st left a i (amA c o st left a i) := rfl
theorem am_in (c : Cv) (o st left a : Nat) : ∀ i, (amA c o st left a i = none → ∀ j, j < i → left.testBit j = false) ∧ (∀ b, amA c o st left a i = some b → b < i ∧ left.testBit b = true ∧ (∀ j, j < i → left.testBit j = true → tgN c o st left a b ≤ tgN c o st left a j) ∧ ∀ j, j < b → left.testBit j = true → tgN c o st left a b < tgN c o st left a j) := by
  intro i
  induction i with
  | zero => exact ⟨fun _ j hj => by omega, fun b h => by cases h⟩
  | succ i ih =>
    rw [amA_s]
    unfold amS
    by_cases g : left.testBit i = true
    · rw [if_pos g]
      cases e : amA c o st left a i with
      | none =>
        have hn := ih.1 e
        refine ⟨(fun h => by cases h), fun b h => ?_⟩
        cases h
        refine ⟨by omega, g, fun j hj hs => ?_, fun j hj hs => ?_⟩
        · by_cases z : j = i
          · rw [z]; exact Nat.le_refl _
          · rw [hn j (by omega)] at hs; cases hs
        · rw [hn j hj] at hs; cases hs
      | some w =>
        obtain ⟨w1, w2, w3, w4⟩ := ih.2 w e
        simp only
        by_cases z : tgN c o st left a i < tgN c o st left a w
        · rw [if_pos z]
          refine ⟨(fun h => by cases h), fun b h => ?_⟩
          cases h
          refine ⟨by omega, g, fun j hj hs => ?_, fun j hj hs => ?_⟩
          · by_cases y : j = i
            · rw [y]; exact Nat.le_refl _
            · have := w3 j (by omega) hs; omega
          · have := w3 j hj hs; omega
        · rw [if_neg z]
          refine ⟨(fun h => by cases h), fun b h => ?_⟩
          cases h
          refine ⟨by omega, w2, fun j hj hs => ?_, w4⟩
          by_cases y : j = i
          · rw [y]; omega
          · exact w3 j (by omega) hs
    · rw [if_neg g]
      refine ⟨fun h j hj => ?_, fun b h => ?_⟩
      · by_cases y : j = i
        · rw [y]; simpa using g
        · exact ih.1 h j (by omega)
      · obtain ⟨w1, w2, w3, w4⟩ := ih.2 b h
        refine ⟨by omega, w2, fun j hj hs => ?_, w4⟩
        by_cases y : j = i
        · rw [y] at hs; exact absurd hs g
        · exact w3 j (by omega) hs
/-- the least way, and the first cavern that has it -/
theorem am_tm {c : Cv} (ok : Cok c) {o st left a b : Nat} (hst : st < 8) (hJ : inJ c o st left) (ha : a < 8) (hj : jnB c o st a = true) (h : amA c o st left a 8 = some b) : tm (dM c o) st left a = tgN c o st left a b ∧ lstF (fun d => left.testBit d && decide (tgN c o st left a d = tm (dM c o) st left a)) 8 = some b := by
  obtain ⟨w1, w2, w3, w4⟩ := (am_in c o st left a 8).2 b h
  have hne : left ≠ 0 := by intro e; rw [e, Nat.zero_testBit] at w2; cases w2
  have dm : ∀ d, left.testBit d = true → dM c o a d = dN c o a d := fun d hd => dM_n (jn_tr ok ha hst (jn_sym ok hst ha hj) (hJ d hd).2)
  have e1 : tm (dM c o) st left a = tgN c o st left a b := by
    have f1 := tv_d (dM c o) (tm (dM c o) st) left a (if left = 0 then dM c o a st else 1000000) 8 b w1 w2
    have f2 := tv_ex (dM c o) (tm (dM c o) st) left a (if left = 0 then dM c o a st else 1000000) 8
    have f3 := tm_fin ok hst left left (Nat.le_refl _) hJ a ha hj
    have hl : left < 256 := Nat.lt_pow_two_of_testBit (n := 8) left (fun i hi => by
      cases g : left.testBit i with
      | false => rfl
      | true => have := (hJ i g).1; omega)
    rw [tm_e] at f3 ⊢
    unfold tmV at f3 ⊢
    rw [dm b w2] at f1
    rw [if_neg hne] at f1 f2 f3 ⊢
    unfold tgN
    rcases f2 with f2 | ⟨d, d1, d2, d3⟩
    · omega
    · rw [dm d d2] at d3
      have := w3 d d1 d2
      unfold tgN at this
      omega
  refine ⟨e1, lst_is w1 (by rw [w2, decide_eq_true e1.symm]; rfl) (fun j hj2 => ?_)⟩
  cases g : left.testBit j with
  | false => rfl
  | true =>
    have := w4 j hj2 g
    rw [decide_eq_false (by omega)]; rfl
/-! the class's plan -/
def TC (T : St) (c : Cv) (o st D i : Nat) : Prop := ∀ l a, l < i → l &&& (D ^^^ 4294967295) = 0 → a < 8 → jnB c o st a = true → gI T 100 (8 * l + a) = nI (tm (dM c o) st l a)
theorem sub_in {c : Cv} {o st D l : Nat} (hD : inJ c o st D) (hl : l < 256) (h : l &&& (D ^^^ 4294967295) = 0) : inJ c o st l := by
  intro d hd
  have h8 : d < 8 := by
    apply Decidable.byContradiction
    intro hn
    have h2 : 2 ^ 8 ≤ 2 ^ d := Nat.pow_le_pow_right (by omega) (by omega)
    have : l.testBit d = false := Nat.testBit_lt_two_pow (by omega)
    rw [hd] at this; cases this
  exact hD d ((sub0 (m := 8) (show l < 2 ^ 8 by omega) (by omega)).mp h d h8 hd)
theorem clr_sub0 {D l d : Nat} (h : l &&& (D ^^^ 4294967295) = 0) : clrN l d &&& (D ^^^ 4294967295) = 0 := by
  unfold clrN
  rw [Nat.and_assoc, Nat.and_comm (2 ^ d ^^^ 4294967295), ← Nat.and_assoc, h, Nat.zero_and]
theorem mby_c {T : St} {c : Cv} {o st D i l a d : Nat} (hF : DA T 99 (dN c o)) (hT : TC T c o st D i) (hD : inJ c o st D) (hl : l < 256) (hli : l ≤ i) (hs : l &&& (D ^^^ 4294967295) = 0) (ha : a < 8) (hd : l.testBit d = true) : f_X9_minutesBy (nI l) (nI a) (nI d) T = some (nI (tgN c o st l a d), T) := by
  obtain ⟨h8, hj⟩ := sub_in hD hl hs d hd
  have hc := clr_lt hd (by omega)
  have ecl : nI l &&& (((1 : Int32) <<< (nI d &&& 31)) ^^^ (-1 : Int32)) = nI (clrN l d) := nClr (by omega)
  unfold f_X9_minutesBy f_X9_minutesLeft
  rw [far_c hF ha h8, bd_e, ecl, ix8, if_pos (show inb (nI (8 * clrN l d + d)) 2048 by rw [inb_nI (by omega)]; omega), nI_t (by omega), hT (clrN l d) d (by omega) (clr_sub0 hs) h8 hj, bd_e, nAdd]
  rfl
theorem tg_lt {c : Cv} (o st l a d : Nat) : tgN c o st l a d < 2000000 := by
  have h1 := dN_le c o a d
  have h2 := tm_le (c := c) (o := o) (st := st) (clrN l d) d
  unfold tgN; omega
theorem nxt_c2 {T : St} {c : Cv} {o st D i l a : Nat} (hF : DA T 99 (dN c o)) (hT : TC T c o st D i) (hD : inJ c o st D) (hl : l < 256) (hli : l ≤ i) (hs : l &&& (D ^^^ 4294967295) = 0) (ha : a < 8) : f_X9_nextOfTour (nI l) (nI a) T = some (optI (amA c o st l a 8), T) := by
  refine lp_for (body := f_X9_nextOfTour_5b (nI l) (nI a) (fun v7 S8 => some (v7.1, S8))) 8 (fun d => ((optI (amA c o st l a d), nI d), T)) (out := some (optI (amA c o st l a 8), T)) (fun d k hd => ?_) (fun k => ?_) FU 0 (by omega) (by unfold FU; omega)
  · have inv := am_in c o st l a d
    have hh := hasN (j := l) (n := d) (by omega) (by omega)
    rw [amA_s]
    unfold f_X9_nextOfTour_5b f_X9_nextOfTour_27 f_X9_nextOfTour_57 f_X9_nextOfTour_60 amS
    simp only
    rw [if_neg (nLe8 hd)]
    by_cases g : l.testBit d = true
    · rw [if_pos (show nI l >>> (nI d &&& 31) &&& (1 : Int32) = (1 : Int32) from hh.mpr g), if_neg (show ¬ (1 : Int32) = 0 by decide), if_pos g]
      cases e : amA c o st l a d with
      | none => rw [if_pos (show optI none = (-1 : Int32) by decide), a1]; rfl
      | some w =>
        obtain ⟨w1, w2, w3, w4⟩ := inv.2 w e
        have t1 := tg_lt (c := c) o st l a d
        have t2 := tg_lt (c := c) o st l a w
        show (if nI w = (-1 : Int32) then _ else bd (f_X9_minutesBy (nI l) (nI a) (nI d) T) (fun r1 S2 => bd (f_X9_minutesBy (nI l) (nI a) (nI w) S2) (fun r4 S5 => if r4 ≤ r1 then k (nI w, nI d + 1) S5 else k (nI d, nI d + 1) S5))) = _
        rw [if_neg (nne (by omega)), mby_c hF hT hD hl hli hs ha g, bd_e, mby_c hF hT hD hl hli hs ha w2, bd_e]
        simp only
        by_cases z : tgN c o st l a d < tgN c o st l a w
        · rw [if_neg (by rw [nLe (by omega) (by omega)]; omega), if_pos z, a1]; rfl
        · rw [if_pos (by rw [nLe (by omega) (by omega)]; omega), if_neg z, a1]; rfl
    · rw [if_neg (show ¬ nI l >>> (nI d &&& 31) &&& (1 : Int32) = (1 : Int32) from fun h => g (hh.mp h)), if_pos trivial, if_neg g, a1]
  · unfold f_X9_nextOfTour_5b
    simp only
    rw [if_pos (show (8 : Int32) ≤ nI 8 by decide)]
abbrev oT : St → St → Prop := Sm (fun a _ => decide (a ≠ 100)) (fun _ => true)
theorem oT.q {T T' : St} (h : oT T T') : QC T T' := by
  refine ⟨fun a b hab => h.1 a b ?_, fun a b _ => h.2 a b rfl⟩
  have e1 : a ≠ 100 := by intro e; subst e; cases hab
  simp [e1]
theorem DA.t {T T' : St} {F : Nat → Nat → Nat} (h : DA T 99 F) (q : oT T T') : DA T' 99 F := fun x y hx hy => (q.1 99 _ rfl).trans (h x y hx hy)
theorem row_c {T : St} {c : Cv} (ok : Cok c) {o st D l : Nat} (hst : st < 8) (hF : DA T 99 (dN c o)) (hT : TC T c o st D l) (hD : inJ c o st D) (hl : l < 256) (hs : l &&& (D ^^^ 4294967295) = 0) (x2 : Int32) (e : Int32 → St → Option (Unit × St)) : ∃ T', lp (f_X9_planTours_18b (nI st) x2 (nI l) e) FU 0 T = e (nI 8) T' ∧ oT T T' ∧ TC T' c o st D (l + 1) := by
  have h0 := lp_ex (body := f_X9_planTours_18b (nI st) x2 (nI l) e) (Q := fun w => ∃ T', w = e (nI 8) T' ∧ oT T T' ∧ TC T' c o st D (l + 1)) 8 (fun a v S => v = nI a ∧ oT T S ∧ TC S c o st D l ∧ ∀ b, b < a → jnB c o st b = true → gI S 100 (8 * l + b) = nI (tm (dM c o) st l b)) (fun a k v S ha hI => ?_) (fun k v S hI => ?_) FU 0 (0 : Int32) T (by omega) (by unfold FU; omega) ⟨rfl, Sm.rf T, hT, fun b hb => by omega⟩
  · exact h0
  · obtain ⟨rfl, w1, w2, w3⟩ := hI
    have hF' := hF.t w1
    obtain ⟨V, hV, hV2⟩ : ∃ V : Nat, f_X9_planTours_18b (nI st) x2 (nI l) e k (nI a) S = k (nI (a + 1)) (sI S 100 (8 * l + a) (nI V)) ∧ (jnB c o st a = true → V = tm (dM c o) st l a) := by
      unfold f_X9_planTours_18b f_X9_planTours_70
      rw [if_neg (nLe8 ha), nxt_c2 hF' w2 hD hl (Nat.le_refl _) hs ha, bd_e, ix8]
      have wi : inb (nI (8 * l + a)) 2048 := by rw [inb_nI (by omega)]; omega
      simp only [if_pos wi, nI_t (show 8 * l + a < 2147483648 by omega), lt_e, a1]
      cases g : amA c o st l a 8 with
      | none =>
        have z : l = 0 := by
          apply Nat.eq_of_testBit_eq
          intro i
          rw [Nat.zero_testBit]
          by_cases hi : i < 8
          · exact (am_in c o st l a 8).1 g i hi
          · have h2 : 2 ^ 8 ≤ 2 ^ i := Nat.pow_le_pow_right (by omega) (by omega)
            exact Nat.testBit_lt_two_pow (by omega)
        refine ⟨dN c o a st, ?_, fun hj => ?_⟩
        · rw [if_pos (show optI none = (-1 : Int32) by decide), far_c hF' ha hst, bd_e]
        · subst z
          have js := jn_sym ok hst ha hj
          rw [tm_e]
          unfold tmV
          rw [if_pos rfl, itN_id _ 8 (fun i b hi => by unfold tmF; rw [if_neg (by rw [Nat.zero_testBit]; simp)]), dM_n js]
      | some b =>
        obtain ⟨b1, b2, _⟩ := (am_in c o st l a 8).2 b g
        refine ⟨tgN c o st l a b, ?_, fun hj => ?_⟩
        · show (if nI b = (-1 : Int32) then _ else bd (f_X9_minutesBy (nI l) (nI a) (nI b) S) (fun r6 S7 => k (nI (a + 1)) (sI S7 100 (8 * l + a) r6))) = _
          rw [if_neg (nne (by omega)), mby_c hF' w2 hD hl (Nat.le_refl _) hs ha b2, bd_e]
        · exact (am_tm ok hst (sub_in hD hl hs) ha hj g).1.symm
    refine ⟨nI (a + 1), sI S 100 (8 * l + a) (nI V), hV, rfl, w1.sI rfl, fun l2 a2 h1 h2 h3 h4 => ?_, fun b hb hj => ?_⟩
    · rw [gI_s, if_pos rfl, if_neg (by omega)]; exact w2 l2 a2 h1 h2 h3 h4
    · rw [gI_s, if_pos rfl]
      by_cases z : b = a
      · rw [if_pos (by omega), z, hV2 (z ▸ hj)]
      · rw [if_neg (by omega)]; exact w3 b (by omega) hj
  · obtain ⟨rfl, w1, w2, w3⟩ := hI
    refine ⟨S, ?_, w1, fun l2 a2 h1 h2 h3 h4 => ?_⟩
    · unfold f_X9_planTours_18b
      rw [if_pos (show (8 : Int32) ≤ nI 8 by decide)]
    · by_cases z : l2 = l
      · rw [z]; exact w3 a2 h3 h4
      · exact w2 l2 a2 (by omega) h2 h3 h4
theorem plan_c {T : St} {c : Cv} (ok : Cok c) {o st D : Nat} (hst : st < 8) (hF : DA T 99 (dN c o)) (hD : inJ c o st D) (hD8 : D < 256) : ∃ T', f_X9_planTours (nI st) (nI D) T = some ((), T') ∧ oT T T' ∧ TC T' c o st D (D + 1) := by
  have h0 := lp_ex (body := f_X9_planTours_2b (nI st) (nI D) (fun v14 S15 => some ((), S15))) (Q := fun w => ∃ T', w = some ((), T') ∧ oT T T' ∧ TC T' c o st D (D + 1)) (D + 1) (fun l v S => v = nI l ∧ oT T S ∧ TC S c o st D l) (fun l k v S hl hI => ?_) (fun k v S hI => ?_) FU 0 (0 : Int32) T (by omega) (by unfold FU; omega) ⟨rfl, Sm.rf T, fun l a h => by omega⟩
  · exact h0
  · obtain ⟨rfl, w1, w2⟩ := hI
    have ha := Nat.and_le_left (n := l) (m := D ^^^ 4294967295)
    have en : nI l &&& (nI D ^^^ (-1 : Int32)) = nI (l &&& (D ^^^ 4294967295)) := by rw [show (-1 : Int32) = nI 4294967295 by decide, nXor, nAnd]
    unfold f_X9_planTours_2b f_X9_planTours_77
    rw [if_neg (by rw [nLt (by omega) (by omega)]; omega), en]
    by_cases g : l &&& (D ^^^ 4294967295) = 0
    · obtain ⟨S1, s1, s2, s3⟩ := row_c ok hst (hF.t w1) w2 hD (by omega) g (nI D) (fun v12 S13 => k (nI l + (1 : Int32)) S13)
      refine ⟨nI (l + 1), S1, ?_, rfl, w1.tr s2, s3⟩
      rw [if_pos (show nI (l &&& (D ^^^ 4294967295)) = 0 by rw [g]; rfl)]
      refine s1.trans ?_
      rw [a1]
    · refine ⟨nI (l + 1), S, ?_, rfl, w1, fun l2 a2 h1 h2 h3 h4 => ?_⟩
      · rw [if_neg (show ¬ nI (l &&& (D ^^^ 4294967295)) = 0 by rw [lit, nEq (by omega) (by omega)]; exact g), a1]
      · by_cases z : l2 = l
        · rw [z] at h2; exact absurd h2 g
        · exact w2 l2 a2 (by omega) h2 h3 h4
  · obtain ⟨rfl, w1, w2⟩ := hI
    refine ⟨S, ?_, w1, w2⟩
    unfold f_X9_planTours_2b
    rw [if_pos (by rw [nLt (by omega) (by omega)]; omega)]
