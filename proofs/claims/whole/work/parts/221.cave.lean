/-! the cave's small words -/
theorem k87 (x : Int32) : (nI 8 ≤ x) = (nI 7 < x) := by rw [i_le, i_lt, nI_int (by omega), nI_int (by omega)]; apply propext; omega
theorem isCav_c (x : Int32) (T : St) : f_X10_isCavern x T = some (if ¬ x < nI 0 ∧ ¬ nI 7 < x then nI 1 else nI 0, T) := by
  unfold f_X10_isCavern
  simp only [lit, k87]
  by_cases g1 : x < nI 0
  · simp only [g1, if_true, not_true, false_and, if_false]
  · by_cases g2 : nI 7 < x
    · simp only [g1, g2, if_true, if_false, not_true, and_false]
    · simp only [g1, g2, if_true, if_false, not_false_iff, and_self]
theorem isLet_c (x : Int32) (T : St) : f_X10_isLetter x T = some (if ¬ x < nI 0 ∧ ¬ nI 7 < x then nI 1 else nI 0, T) := by
  unfold f_X10_isLetter
  simp only [lit, k87]
  by_cases g1 : x < nI 0
  · simp only [g1, if_true, not_true, false_and, if_false]
  · by_cases g2 : nI 7 < x
    · simp only [g1, g2, if_true, if_false, not_true, and_false]
    · simp only [g1, g2, if_true, if_false, not_false_iff, and_self]
theorem isCav_m (x : Int32) (T : St) : f_X11_isCavern x T = some (if ¬ x < nI 0 ∧ ¬ nI 7 < x then nI 1 else nI 0, T) := by
  unfold f_X11_isCavern
  simp only [lt_e, bd_e, fl3z, fl2z, fl6z, in0, in2, in_0_2, in_0_3, in_0_4, in_0_5, in_0_7, in_0_9, in_0_10, in_0_20, in_0_60, in_0_255, in_1_9, in_1_6, in_1_60, in_2_9, in_48_57, in_97_104]
theorem ok12 {c : Cv} (h : Cok c) : cm c ≤ 12 := h.1
theorem okO {c : Cv} (h : Cok c) : co c < 4096 := Nat.lt_of_lt_of_le h.2.2 (p12 h.1)
theorem isOpen_c {T : St} {c : Cv} (ok : Cok c) (h : CC T c) {n : Nat} (hn : n < 32) : f_X0_isOpen (nI n) T = some (if (co c).testBit n = true then nI 1 else nI 0, T) := by
  unfold f_X0_isOpen
  rw [h.2.2.1]
  have := okO ok
  have e := hasN (j := co c) (n := n) (by omega) hn
  by_cases g : (co c).testBit n = true
  · rw [if_pos g]; exact if_pos (e ▸ g)
  · rw [if_neg g]; exact if_neg (e ▸ g)
theorem has_m (T : St) {j n : Nat} (hj : j < 2147483648) (hn : n < 32) : f_X11_has (nI j) (nI n) T = some (if j.testBit n = true then nI 1 else nI 0, T) := by
  unfold f_X11_has
  have e := hasN (j := j) (n := n) hj hn
  by_cases g : j.testBit n = true
  · rw [if_pos g]; exact if_pos (e ▸ g)
  · rw [if_neg g]; exact if_neg (e ▸ g)
theorem isEnd_c {T : St} {c : Cv} (ok : Cok c) (h : CC T c) {q : Nat} (hq : q < cm c) (x : Int32) : f_X0_isEnd x (nI q) T = some (if nI (ca c q) = x ∨ nI (cb c q) = x then nI 1 else nI 0, T) := by
  have := ok12 ok
  obtain ⟨e1, e2, _⟩ := h.2.1 q hq
  unfold f_X0_isEnd f_X0_isEnd_20
  simp (disch := omega) only [inb_nI, nI_t, e1, e2, show q < 12 by omega, if_true]
  by_cases g1 : nI (ca c q) = x
  · simp only [g1, if_true, true_or]; rfl
  · by_cases g2 : nI (cb c q) = x
    · simp only [g1, g2, if_true, if_false, or_true]; rfl
    · simp only [g1, g2, if_false, or_self]; rfl
theorem isEnd_m {T : St} {c : Cv} {ar : Nat} (ok : Cok c) (h : CM T ar c) {q : Nat} (hq : q < cm c) (x : Int32) : f_X11_isEnd (nI q) x T = some (if nI (ca c q) = x ∨ nI (cb c q) = x then nI 1 else nI 0, T) := by
  have := ok12 ok
  obtain ⟨e1, e2, _⟩ := h.2.1 q hq
  unfold f_X11_isEnd f_X11_isEnd_20
  simp (disch := omega) only [inb_nI, nI_t, e1, e2, show q < 12 by omega, if_true]
  by_cases g1 : nI (ca c q) = x
  · simp only [g1, if_true, true_or]; rfl
  · by_cases g2 : nI (cb c q) = x
    · simp only [g1, g2, if_true, if_false, or_true]; rfl
    · simp only [g1, g2, if_false, or_self]; rfl
theorem across_c {T : St} {c : Cv} (ok : Cok c) (h : CC T c) {q : Nat} (hq : q < cm c) (x : Int32) : f_X0_acrossFrom x (nI q) T = some (if nI (ca c q) = x then nI (cb c q) else nI (ca c q), T) := by
  have := ok12 ok
  obtain ⟨e1, e2, _⟩ := h.2.1 q hq
  unfold f_X0_acrossFrom
  simp (disch := omega) only [inb_nI, nI_t, e1, e2, show q < 12 by omega, if_true]
  by_cases g1 : nI (ca c q) = x
  · simp only [g1, if_true]
  · simp only [g1, if_false]
theorem beyond_m {T : St} {c : Cv} {ar : Nat} (ok : Cok c) (h : CM T ar c) {q : Nat} (hq : q < cm c) (x : Int32) : f_X11_beyond (nI q) x T = some (if nI (ca c q) = x then nI (cb c q) else nI (ca c q), T) := by
  have := ok12 ok
  obtain ⟨e1, e2, _⟩ := h.2.1 q hq
  unfold f_X11_beyond
  simp (disch := omega) only [inb_nI, nI_t, e1, e2, show q < 12 by omega, if_true]
  by_cases g1 : nI (ca c q) = x
  · simp only [g1, if_true]
  · simp only [g1, if_false]
theorem endsOf_c {T : St} {c : Cv} (ok : Cok c) (h : CC T c) {q : Nat} (hq : q < cm c) : f_X0_endsOf (nI q) T = some (nI (2 ^ ca c q ||| 2 ^ cb c q), T) := by
  have := ok12 ok
  obtain ⟨e1, e2, _⟩ := h.2.1 q hq
  obtain ⟨k1, k2, _⟩ := ok.2.1 q hq
  unfold f_X0_endsOf
  simp (disch := omega) only [inb_nI, nI_t, e1, e2, show q < 12 by omega, if_true, lt_e, lit, nShl, nOr]
/-! bits of those that are so -/
def orN (p : Nat → Bool) : Nat → Nat
  | 0 => 0
  | n + 1 => if p n = true then orN p n ||| 2 ^ n else orN p n
theorem orN_lt (p : Nat → Bool) : ∀ n, orN p n < 2 ^ n
  | 0 => by show 0 < 1; omega
  | n + 1 => by
    have ih := orN_lt p n
    have h2 : 2 ^ n < 2 ^ (n + 1) := Nat.pow_lt_pow_right (by omega) (by omega)
    show (if p n = true then orN p n ||| 2 ^ n else orN p n) < _
    split
    · exact Nat.or_lt_two_pow (by omega) h2
    · omega
theorem orN_tb (p : Nat → Bool) : ∀ n i, (orN p n).testBit i = (decide (i < n) && p i)
  | 0, i => by show (0 : Nat).testBit i = _; simp
  | n + 1, i => by
    have ih := orN_tb p n i
    show (if p n = true then orN p n ||| 2 ^ n else orN p n).testBit i = _
    by_cases e : i = n
    · subst e
      by_cases g : p i = true
      · rw [if_pos g, Nat.testBit_or, ih, Nat.testBit_two_pow_self]; simp [g]
      · rw [if_neg g, ih]; simp at g; simp [g]
    · have e1 : decide (i < n + 1) = decide (i < n) := by
        by_cases h : i < n
        · rw [decide_eq_true h, decide_eq_true (by omega)]
        · rw [decide_eq_false h, decide_eq_false (by omega)]
      rw [e1]
      split
      · rw [Nat.testBit_or, ih, Nat.testBit_two_pow_of_ne (fun h => e h.symm)]; simp
      · exact ih
theorem orN_e {p q : Nat → Bool} : ∀ {n : Nat}, (∀ i, i < n → p i = q i) → orN p n = orN q n
  | 0, _ => rfl
  | n + 1, h => by
    show (if p n = true then orN p n ||| 2 ^ n else orN p n) = (if q n = true then orN q n ||| 2 ^ n else orN q n)
    rw [orN_e (n := n) (fun i hi => h i (by omega)), h n (by omega)]
theorem orN_s {p : Nat → Bool} {n : Nat} (hn : n < 31) : (if p n = true then nI (orN p n) ||| (nI 1 <<< (nI n &&& nI 31)) else nI (orN p n)) = nI (orN p (n + 1)) := by
  show _ = nI (if p n = true then orN p n ||| 2 ^ n else orN p n)
  split
  · rw [nShl hn, nOr]
  · rfl
/-- does the passage end there -/
def endB (c : Cv) (x : Int32) (q : Nat) : Bool := decide (nI (ca c q) = x ∨ nI (cb c q) = x)
theorem endingAt_c {T : St} {c : Cv} (ok : Cok c) (h : CC T c) (x : Int32) : f_X0_endingAt x T = some (nI (orN (endB c x) (cm c)), T) := by
  unfold f_X0_endingAt
  have h12 := ok12 ok
  refine lp_for (cm c) (fun i => ((nI (orN (endB c x) i), nI i), T)) (fun i k hi => ?_) (fun k => ?_) FU 0 (by omega) (by unfold FU; omega)
  · unfold f_X0_endingAt_4b f_X0_endingAt_27
    rw [if_neg (by rw [h.1, nLe (by omega) (by omega)]; omega), isEnd_c ok h hi, bd_e]
    simp only [fl3z]
    rw [← orN_s (p := endB c x) (n := i) (by omega)]
    by_cases g : nI (ca c i) = x ∨ nI (cb c i) = x
    · rw [if_pos g, if_pos (show endB c x i = true from decide_eq_true g), lt_e]
      simp only [lit, nAdd]
    · rw [if_neg g, if_neg (show ¬ endB c x i = true by unfold endB; rw [decide_eq_false g]; simp)]
      simp only [lit, nAdd]
  · unfold f_X0_endingAt_4b
    rw [if_pos (by rw [h.1, nLe (by omega) (by omega)]; omega)]
theorem openOf_c {T : St} {c : Cv} (ok : Cok c) (h : CC T c) (x : Int32) : f_X0_openOf x T = some (nI (orN (endB c x) (cm c) &&& co c), T) := by
  unfold f_X0_openOf
  rw [endingAt_c ok h, bd_e, h.2.2.1, nAnd]
theorem openOf_m {T : St} {c : Cv} (ok : Cok c) (h : CM T 126 c) (x : Int32) : f_X11_openOf x T = some (nI (orN (fun i => (co c).testBit i && endB c x i) (cm c)), T) := by
  unfold f_X11_openOf
  have h12 := ok12 ok
  have hO := okO ok
  refine lp_for (cm c) (fun i => ((nI (orN (fun i => (co c).testBit i && endB c x i) i), nI i), T)) (fun i k hi => ?_) (fun k => ?_) FU 0 (by omega) (by unfold FU; omega)
  · unfold f_X11_openOf_4b f_X11_openOf_42 f_X11_openOf_43
    rw [if_neg (by rw [h.1, nLe (by omega) (by omega)]; omega), h.2.2.1, has_m _ (by omega) (by omega), bd_e]
    simp only [fl3z]
    rw [← orN_s (p := fun i => (co c).testBit i && endB c x i) (n := i) (by omega)]
    by_cases g1 : (co c).testBit i = true
    · rw [if_pos g1, isEnd_m ok h hi, bd_e]
      simp only [fl3z]
      by_cases g : nI (ca c i) = x ∨ nI (cb c i) = x
      · have e : endB c x i = true := decide_eq_true g
        rw [if_pos g, if_pos (by rw [g1, e]; rfl), lt_e]
        simp only [lit, nAdd]
      · have e : endB c x i = false := decide_eq_false g
        rw [if_neg g, if_neg (by rw [e]; simp), lt_e]
        simp only [lit, nAdd, nOr, Nat.or_zero]
    · rw [if_neg g1, if_neg (by simp at g1; rw [g1]; simp), lt_e]
      simp only [lit, nAdd, nOr, Nat.or_zero]
  · unfold f_X11_openOf_4b
    rw [if_pos (by rw [h.1, nLe (by omega) (by omega)]; omega)]
theorem open_eq {c : Cv} (ok : Cok c) (x : Int32) : orN (endB c x) (cm c) &&& co c = orN (fun i => (co c).testBit i && endB c x i) (cm c) := by
  apply Nat.eq_of_testBit_eq
  intro i
  rw [Nat.testBit_and, orN_tb, orN_tb]
  cases decide (i < cm c) <;> cases (co c).testBit i <;> cases endB c x i <;> rfl
/-! the least one -/
def lstF (p : Nat → Bool) : Nat → Option Nat
  | 0 => none
  | n + 1 => match lstF p n with
    | some i => some i
    | none => if p n = true then some n else none
theorem lst_none {p : Nat → Bool} : ∀ {n : Nat}, lstF p n = none → ∀ j, j < n → p j = false
  | 0, _, j, hj => absurd hj (by omega)
  | n + 1, h, j, hj => by
    unfold lstF at h
    cases e : lstF p n with
    | some i => rw [e] at h; cases h
    | none =>
      rw [e] at h
      by_cases g : p n = true
      · simp only [g, if_true] at h; cases h
      · by_cases q : j = n
        · subst q; simpa using g
        · exact lst_none e j (by omega)
theorem lst_some {p : Nat → Bool} : ∀ {n i : Nat}, lstF p n = some i → i < n ∧ p i = true ∧ ∀ j, j < i → p j = false
  | 0, i, h => by cases h
  | n + 1, i, h => by
    unfold lstF at h
    cases e : lstF p n with
    | some j =>
      rw [e] at h; cases h
      obtain ⟨a, b, c⟩ := lst_some e
      exact ⟨by omega, b, c⟩
    | none =>
      rw [e] at h
      by_cases g : p n = true
      · simp only [g, if_true] at h; cases h
        refine ⟨by omega, g, fun j hj => ?_⟩
        have := (lst_none e) j hj
        exact this
      · simp only [g] at h; cases h
theorem lst_is {p : Nat → Bool} {n i : Nat} (h1 : i < n) (h2 : p i = true) (h3 : ∀ j, j < i → p j = false) : lstF p n = some i := by
  cases e : lstF p n with
  | none => have := lst_none e i h1; rw [h2] at this; cases this
  | some j =>
    obtain ⟨a, b, d⟩ := lst_some e
    by_cases q : i < j
    · have := d i q; rw [h2] at this; cases this
    · by_cases q2 : j < i
      · have := h3 j q2; rw [b] at this; cases this
      · congr 1; omega
theorem lst_no {p : Nat → Bool} {n : Nat} (h : ∀ j, j < n → p j = false) : lstF p n = none := by
  cases e : lstF p n with
  | none => rfl
  | some j =>
    obtain ⟨a, b, d⟩ := lst_some e
    rw [h j a] at b; cases b
def tzN (x : Int32) : Int32 := match f_J6_numberOfTrailingZeros_0f7a4 x ((fun _ _ => 0), (fun _ _ => 0)) with
  | some r => r.1
  | none => 0
def optI : Option Nat → Int32
  | some i => nI i
  | none => -nI 1
theorem tz_all : ∀ a, a < 64 → ∀ b, b < 64 → ¬ 64 * a + b = 0 → tzN (nI (64 * a + b)) = optI (lstF (fun i => (64 * a + b).testBit i) 12) := by decide +kernel
theorem pu_it {c : Prop} [Decidable c] {a b : St → Option (Int32 × St)} (ha : ∃ v, ∀ S, a S = some (v, S)) (hb : ∃ v, ∀ S, b S = some (v, S)) : ∃ v, ∀ S, (if c then a S else b S) = some (v, S) := by
  by_cases h : c
  · obtain ⟨v, e⟩ := ha; exact ⟨v, fun S => by rw [if_pos h, e]⟩
  · obtain ⟨v, e⟩ := hb; exact ⟨v, fun S => by rw [if_neg h, e]⟩
theorem tz_p (x : Int32) : ∃ v, ∀ S, f_J6_numberOfTrailingZeros_0f7a4 x S = some (v, S) := by
  unfold f_J6_numberOfTrailingZeros_0f7a4 f_J6_numberOfTrailingZeros_0f7a4_34 f_J6_numberOfTrailingZeros_0f7a4_49 f_J6_numberOfTrailingZeros_0f7a4_62 f_J6_numberOfTrailingZeros_0f7a4_74
  simp only [lt_e]
  repeat' first | exact ⟨_, fun S => rfl⟩ | apply pu_it
theorem tz_e (x : Int32) (S : St) : f_J6_numberOfTrailingZeros_0f7a4 x S = some (tzN x, S) := by
  obtain ⟨v, h⟩ := tz_p x
  unfold tzN
  rw [h, h]
theorem least_c (T : St) {x : Nat} (hx : x < 4096) : f_X2_leastOf (nI x) T = some (optI (lstF (fun i => x.testBit i) 12), T) := by
  unfold f_X2_leastOf
  by_cases h0 : x = 0
  · subst h0
    rw [if_pos (show nI 0 = 0 from rfl), lst_no (fun j _ => by simp)]; rfl
  · rw [if_neg (by rw [lit, nEq (by omega) (by omega)]; exact h0), tz_e, bd_e]
    have := tz_all (x / 64) (by omega) (x % 64) (by omega) (by omega)
    rw [show 64 * (x / 64) + x % 64 = x by omega] at this
    rw [this]
