/-! texts read: the reference's tape -/
theorem sI_0 {S : St} {o k : Nat} {v : Int32} (h : gI S o k = v) : sI S o k v = S := by
  apply St_ext
  · intro a b
    rw [gI_s]
    by_cases e1 : a = o
    · by_cases e2 : b = k
      · rw [if_pos e1, if_pos e2, e1, e2, h]
      · rw [if_pos e1, if_neg e2]
    · rw [if_neg e1]
  · intro a b; rfl
theorem sI_2 (S : St) (o k : Nat) (v w : Int32) : sI (sI S o k v) o k w = sI S o k w := by
  apply St_ext
  · intro a b
    rw [gI_s, gI_s, gI_s]
    by_cases e1 : a = o
    · by_cases e2 : b = k
      · rw [if_pos e1, if_pos e2, if_pos e1, if_pos e2]
      · rw [if_pos e1, if_neg e2, if_pos e1, if_neg e2, if_pos e1, if_neg e2]
    · rw [if_neg e1, if_neg e1, if_neg e1]
  · intro a b; rfl
def TaM (T : St) (a to : Nat) (t : Nat → Nat) : Prop := gI T 122 11 = nI a ∧ gI T 122 12 = nI to ∧ to ≤ 80 ∧ a ≤ to ∧ ∀ i, i < to → gI T 128 i = nI (t i) ∧ t i ≤ 255
theorem TaM.at {T : St} {a a' to : Nat} {t : Nat → Nat} (h : TaM T a to t) (ha : a' ≤ to) : TaM (sI T 122 11 (nI a')) a' to t := by
  obtain ⟨h1, h2, h3, h4, h5⟩ := h
  exact ⟨rfl, h2, h3, ha, fun i hi => h5 i hi⟩
theorem TaM.of {T T' : St} {a a' to : Nat} {t : Nat → Nat} (h : TaM T a to t) (e1 : gI T' 122 11 = nI a') (ha : a' ≤ to) (e2 : gI T' 122 12 = gI T 122 12) (e3 : ∀ i, i < 80 → gI T' 128 i = gI T 128 i) : TaM T' a' to t := by
  obtain ⟨h1, h2, h3, h4, h5⟩ := h
  exact ⟨e1, e2.trans h2, h3, ha, fun i hi => by rw [e3 i (by omega)]; exact h5 i hi⟩
theorem s48 {x : Nat} (h : 48 ≤ x) : nI x - (48 : Int32) = nI (x - 48) := nSub (b := 48) h
theorem in_48_57' (x : Int32) (S : St) : f_X11_in x.toInt64 (48 : Int64) (57 : Int64) S = some (if ¬ x < nI 48 ∧ ¬ nI 57 < x then nI 1 else nI 0, S) := in32 x 48 57 (by decide) (by decide) S
def dgB (t : Nat → Nat) (to a : Nat) : Bool := decide (a < to ∧ 48 ≤ t a ∧ t a ≤ 57)
theorem isDig_m {T : St} {a to : Nat} {t : Nat → Nat} (h : TaM T a to t) : f_X11_isDigit T = some (flI (dgB t to a), T) := by
  obtain ⟨h1, h2, h3, h4, h5⟩ := h
  unfold f_X11_isDigit dgB
  rw [h1, h2]
  by_cases g : a < to
  · obtain ⟨g1, g2⟩ := h5 a g
    rw [if_neg (by rw [nLe (by omega) (by omega)]; omega), if_pos (by rw [inb_nI (by omega)]; omega), nI_t (by omega), g1, in_48_57', bd_e]
    simp only [fl3z]
    by_cases z : 48 ≤ t a ∧ t a ≤ 57
    · rw [if_pos (by rw [nLt (by omega) (by omega), nLt (by omega) (by omega)]; omega), decide_eq_true ⟨g, z⟩]; rfl
    · rw [if_neg (by rw [nLt (by omega) (by omega), nLt (by omega) (by omega)]; omega), decide_eq_false (fun y => z y.2)]; rfl
  · rw [if_pos (by rw [nLe (by omega) (by omega)]; omega), decide_eq_false (fun y => g y.1)]; rfl
theorem takesM {T : St} {a to s : Nat} {t : Nat → Nat} (h : TaM T a to t) (hs : s ≤ 255) : (a < to ∧ t a = s → f_X11_takes (nI s) T = some (nI 1, sI T 122 11 (nI (a + 1)))) ∧ (¬ (a < to ∧ t a = s) → f_X11_takes (nI s) T = some (nI 0, T)) := by
  have h' := h
  obtain ⟨h1, h2, h3, h4, h5⟩ := h
  unfold f_X11_takes f_X11_takes_28 f_X11_takes_29
  have f0 : f_X11_flag 0 T = some (0, T) := rfl
  have f1 : f_X11_flag 1 T = some (1, T) := rfl
  rw [f0, f1, bd_e, bd_e, lt_e, lt_e, h1, h2, if_pos (Or.inl rfl), if_pos (Or.inr rfl), Int32.add_zero, sI_0 h1, a1]
  constructor
  · rintro ⟨g1, g2⟩
    obtain ⟨k1, k2⟩ := h5 a g1
    rw [if_neg (by rw [nLe (by omega) (by omega)]; omega), if_pos (by rw [inb_nI (by omega)]; omega), nI_t (by omega), k1, if_pos (by rw [g2])]
    rfl
  · intro g
    by_cases g1 : a < to
    · obtain ⟨k1, k2⟩ := h5 a g1
      rw [if_neg (by rw [nLe (by omega) (by omega)]; omega), if_pos (by rw [inb_nI (by omega)]; omega), nI_t (by omega), k1, if_neg (by rw [nEq (by omega) (by omega)]; exact fun z => g ⟨g1, z⟩)]
      rfl
    · rw [if_pos (by rw [nLe (by omega) (by omega)]; omega)]; rfl
theorem digIn_m {T : St} {a to lo hi : Nat} {t : Nat → Nat} {but : Int32} (h : TaM T a to t) (hl : lo ≤ 9) (hh : hi ≤ 9) : (a < to ∧ 48 + lo ≤ t a ∧ t a ≤ 48 + hi ∧ nI (t a - 48) ≠ but → f_X11_digitIn (nI lo) (nI hi) but T = some (nI (t a - 48), sI T 122 11 (nI (a + 1)))) ∧ (¬ (a < to ∧ 48 + lo ≤ t a ∧ t a ≤ 48 + hi ∧ nI (t a - 48) ≠ but) → f_X11_digitIn (nI lo) (nI hi) but T = some (-1, T)) := by
  obtain ⟨h1, h2, h3, h4, h5⟩ := h
  unfold f_X11_digitIn
  rw [h1, h2]
  by_cases g : a < to
  · obtain ⟨g1, g2⟩ := h5 a g
    have w : inb (nI a) 80 := by rw [inb_nI (by omega)]; omega
    have e48 : ∀ z, (if ¬ (nI (t a) - 48) < nI lo ∧ ¬ nI hi < (nI (t a) - 48) then z else nI 0) = (if 48 + lo ≤ t a ∧ t a ≤ 48 + hi then z else nI 0) := by
      intro z
      have ei : (nI (t a) - 48).toInt = (t a : Int) - 48 := by
        rw [show (48 : Int32) = nI 48 from rfl, Int32.toInt_sub, nI_int (by omega), nI_int (by omega)]
        apply Int.bmod_eq_of_le <;> omega
      by_cases q : 48 + lo ≤ t a ∧ t a ≤ 48 + hi
      · rw [if_pos q, if_pos (by rw [i_lt, i_lt, ei, nI_int (by omega), nI_int (by omega)]; omega)]
      · rw [if_neg q, if_neg (by rw [i_lt, i_lt, ei, nI_int (by omega), nI_int (by omega)]; omega)]
    rw [if_neg (by rw [nLe (by omega) (by omega)]; omega), if_pos w, nI_t (by omega), g1, in2, e48, bd_e]
    simp only [fl3z]
    by_cases q : 48 + lo ≤ t a ∧ t a ≤ 48 + hi
    · rw [if_pos q, h1, if_pos w, nI_t (by omega), g1, s48 (show 48 ≤ t a by omega)]
      constructor
      · rintro ⟨_, _, _, q3⟩
        rw [if_neg q3, lt_e, a1]
        have e1 : gI (sI T 122 11 (nI (a + 1))) 122 11 = nI (a + 1) := rfl
        have e2 : gI (sI T 122 11 (nI (a + 1))) 128 a = gI T 128 a := rfl
        rw [e1, m1 (by omega), Nat.add_sub_cancel, if_pos w, nI_t (by omega), e2, g1, lt_e, s48 (show 48 ≤ t a by omega)]
      · intro n
        rw [if_pos (Decidable.byContradiction fun z => n ⟨g, q.1, q.2, z⟩)]
    · rw [if_neg q]
      exact ⟨fun n => absurd ⟨n.2.1, n.2.2.1⟩ q, fun _ => rfl⟩
  · rw [if_pos (by rw [nLe (by omega) (by omega)]; omega)]
    exact ⟨fun n => absurd n.1 g, fun _ => rfl⟩
def vlN (t : Nat → Nat) (a : Nat) : Nat → Nat
  | 0 => 0
  | k + 1 => 10 * vlN t a k + (t (a + k) - 48)
theorem vl_le {t : Nat → Nat} {a : Nat} : ∀ k, (∀ i, i < k → t (a + i) ≤ 57) → vlN t a k < 10 ^ k := by
  intro k
  induction k with
  | zero => intro _; show 0 < 1; omega
  | succ k ih =>
    intro h
    have := ih (fun i hi => h i (by omega))
    have := h k (by omega)
    rw [vlN, Nat.pow_succ]; omega
theorem num_m {T : St} {a to d K : Nat} {t : Nat → Nat} (h : TaM T a to t) (hd : d ≤ 3) (hK : K ≤ d) (hK0 : 0 < K) (hg : ∀ i, i < K → dgB t to (a + i) = true) (hs : K = d ∨ dgB t to (a + K) = false) : f_X11_number (nI d) T = some (nI (vlN t a K), sI T 122 11 (nI (a + K))) := by
  have h80 := h.2.2.1
  have hk : ∀ i, i ≤ K → a + i ≤ to := by
    intro i hi
    cases i with
    | zero => exact h.2.2.2.1
    | succ i =>
      have := of_decide_eq_true (hg i (by omega))
      omega
  unfold f_X11_number
  rw [isDig_m h, bd_e, show dgB t to a = true from hg 0 hK0, if_neg (show ¬ flI true = 0 by decide)]
  have h0 := lp_ex (body := f_X11_number_13b (nI d) (fun v10 S11 => some (v10.1, S11))) (Q := fun z => z = some (nI (vlN t a K), sI T 122 11 (nI (a + K)))) K (fun i v S => v = (nI (vlN t a i), nI i) ∧ S = sI T 122 11 (nI (a + i))) (fun i k v S hi hI => ?_) (fun k v S hI => ?_) FU 0 ((0 : Int32), (0 : Int32)) T (by omega) (by unfold FU; omega) ⟨rfl, (sI_0 h.1).symm⟩
  · exact h0
  · obtain ⟨rfl, rfl⟩ := hI
    have hT := h.at (hk i (by omega))
    have gi := of_decide_eq_true (hg i hi)
    obtain ⟨k1, k2⟩ := hT.2.2.2.2 (a + i) gi.1
    refine ⟨_, _, ?_, rfl, rfl⟩
    unfold f_X11_number_13b
    simp only
    rw [if_neg (by rw [nLe (by omega) (by omega)]; omega), isDig_m hT, bd_e, hg i hi, if_neg (show ¬ flI true = 0 by decide), hT.1, if_pos (by rw [inb_nI (by omega)]; omega), nI_t (by omega), k1, lt_e, lt_e, a1, sI_2, a1]
    rw [show (10 : Int32) = nI 10 from rfl, nMul, nAdd, s48 (show 48 ≤ 10 * vlN t a i + t (a + i) by omega), vlN, show 10 * vlN t a i + t (a + i) - 48 = 10 * vlN t a i + (t (a + i) - 48) by omega, Nat.add_assoc]
  · obtain ⟨rfl, rfl⟩ := hI
    have hT := h.at (hk K (by omega))
    unfold f_X11_number_13b
    simp only
    by_cases e : K = d
    · rw [if_pos (by rw [nLe (by omega) (by omega)]; omega)]
    · rcases hs with hs | hs
      · exact absurd hs e
      · rw [if_neg (by rw [nLe (by omega) (by omega)]; omega), isDig_m hT, bd_e, hs, if_pos (show flI false = 0 from rfl)]
theorem num_n {T : St} {a to : Nat} {t : Nat → Nat} (h : TaM T a to t) (d : Int32) (hs : dgB t to a = false) : f_X11_number d T = some (-1, T) := by
  unfold f_X11_number
  rw [isDig_m h, bd_e, hs, if_pos (show flI false = 0 from rfl)]
theorem flt_m {T : St} {a to n most : Nat} {t : Nat → Nat} (h : TaM T a to t) (hto : to = min n most) (hn : n ≤ 80) (hm : most ≤ 80) (is : Bool) : f_X11_faultOf (nI n) (nI most) (flI is) T = some (if is = true ∧ a = to ∧ n ≤ most then 0 else -1 - nI a, T) := by
  obtain ⟨h1, h2, h3, h4, h5⟩ := h
  have f44 : f_X11_faultOf_44 0 T = some (-1 - nI a, T) := by unfold f_X11_faultOf_44; rw [if_pos rfl, h1]
  have f44' : f_X11_faultOf_44 1 T = some (0, T) := by unfold f_X11_faultOf_44; rw [if_neg (show ¬ (1 : Int32) = 0 by decide)]
  have f20 : f_X11_faultOf_20 (nI n) (nI most) 0 T = some (-1 - nI a, T) := by
    unfold f_X11_faultOf_20 f_X11_faultOf_40
    rw [f44, h1]
    by_cases g : n ≤ most
    · rw [if_pos (show nI n ≤ nI most by rw [nLe (by omega) (by omega)]; exact g)]
    · rw [if_neg (show ¬ nI n ≤ nI most by rw [nLe (by omega) (by omega)]; exact g), if_pos (show (0 : Int32) = 0 from rfl)]
      by_cases g2 : a < most
      · rw [if_pos (show nI a < nI most by rw [nLt (by omega) (by omega)]; exact g2)]
      · rw [if_neg (show ¬ nI a < nI most by rw [nLt (by omega) (by omega)]; exact g2), show a = most by omega]
  have f20' : a = to → f_X11_faultOf_20 (nI n) (nI most) 1 T = some (if n ≤ most then 0 else -1 - nI a, T) := by
    intro e
    unfold f_X11_faultOf_20 f_X11_faultOf_40
    rw [f44']
    by_cases g : n ≤ most
    · rw [if_pos (show nI n ≤ nI most by rw [nLe (by omega) (by omega)]; exact g), if_pos g]
    · rw [if_neg (show ¬ nI n ≤ nI most by rw [nLe (by omega) (by omega)]; exact g), if_neg g, if_neg (show ¬ (1 : Int32) = 0 by decide), show a = most by omega]
  unfold f_X11_faultOf f_X11_faultOf_19
  rw [h1, h2, f20]
  cases is with
  | false => rw [if_pos (show flI false = 0 from rfl), if_neg (fun z : false = true ∧ a = to ∧ n ≤ most => by cases z.1)]
  | true =>
    rw [if_neg (show ¬ flI true = 0 by decide)]
    by_cases e : a = to
    · rw [if_pos (show nI a = nI to by rw [e]), f20' e]
      by_cases g : n ≤ most
      · rw [if_pos g, if_pos ⟨rfl, e, g⟩]
      · rw [if_neg g, if_neg (fun z : true = true ∧ a = to ∧ n ≤ most => g z.2.2)]
    · rw [if_neg (show ¬ nI a = nI to by rw [nEq (by omega) (by omega)]; exact e), if_neg (fun z : true = true ∧ a = to ∧ n ≤ most => e z.2.1)]
/-! lines of passages -/
def stN (t : Nat → Nat) (rm p : Nat) : Bool := if p % 5 = 0 then decide (p / 5 < rm ∧ 48 ≤ t p ∧ t p ≤ 55) else if p % 5 = 1 then decide (48 ≤ t p ∧ t p ≤ 55 ∧ t p ≠ t (p - 1)) else if p % 5 = 2 then decide (49 ≤ t p ∧ t p ≤ 57) else if p % 5 = 3 then decide (48 ≤ t p ∧ t p ≤ 57) else decide (t p = 59)
theorem st_0 (t : Nat → Nat) (rm j : Nat) : stN t rm (5 * j) = decide (j < rm ∧ 48 ≤ t (5 * j) ∧ t (5 * j) ≤ 55) := by
  unfold stN
  rw [if_pos (by omega), show 5 * j / 5 = j by omega]
theorem st_1 (t : Nat → Nat) (rm j : Nat) : stN t rm (5 * j + 1) = decide (48 ≤ t (5 * j + 1) ∧ t (5 * j + 1) ≤ 55 ∧ t (5 * j + 1) ≠ t (5 * j)) := by
  unfold stN
  rw [if_neg (by omega), if_pos (by omega)]; rfl
theorem st_2 (t : Nat → Nat) (rm j : Nat) : stN t rm (5 * j + 2) = decide (49 ≤ t (5 * j + 2) ∧ t (5 * j + 2) ≤ 57) := by
  unfold stN
  rw [if_neg (by omega), if_neg (by omega), if_pos (by omega)]
theorem st_3 (t : Nat → Nat) (rm j : Nat) : stN t rm (5 * j + 3) = decide (48 ≤ t (5 * j + 3) ∧ t (5 * j + 3) ≤ 57) := by
  unfold stN
  rw [if_neg (by omega), if_neg (by omega), if_neg (by omega), if_pos (by omega)]
theorem st_4 (t : Nat → Nat) (rm j : Nat) : stN t rm (5 * j + 4) = decide (t (5 * j + 4) = 59) := by
  unfold stN
  rw [if_neg (by omega), if_neg (by omega), if_neg (by omega), if_neg (by omega)]
def TxC (T : St) (t : Nat → Nat) : Prop := ∀ i, i < 80 → gI T 2 i = nI (t i) ∧ t i ≤ 255
theorem wth_c {T : St} {t : Nat → Nat} (h : TxC T t) {i lo hi : Nat} (hi' : i < 80) (h1 : lo ≤ 255) (h2 : hi ≤ 255) : f_X8_within (nI i) (nI lo) (nI hi) T = some (flI (decide (lo ≤ t i ∧ t i ≤ hi)), T) := by
  obtain ⟨g1, g2⟩ := h i hi'
  rw [within_c hi', g1]
  by_cases z : lo ≤ t i ∧ t i ≤ hi
  · rw [if_pos (by rw [nLt (by omega) (by omega), nLt (by omega) (by omega)]; omega), decide_eq_true z]; rfl
  · rw [if_neg (by rw [nLt (by omega) (by omega), nLt (by omega) (by omega)]; omega), decide_eq_false z]; rfl
theorem dig_c {T : St} {t : Nat → Nat} (h : TxC T t) {i : Nat} (hi : i < 80) : f_X8_digit (nI i) T = some (nI (t i) - 48, T) := by
  unfold f_X8_digit
  rw [if_neg (show ¬ nI i < 0 by rw [lit, nLt (by omega) (by omega)]; omega), if_neg (show ¬ (80 : Int32) ≤ nI i by rw [lit, nLe (by omega) (by omega)]; omega), if_pos (show inb (nI i) 80 by rw [inb_nI (by omega)]; omega), nI_t (by omega), (h i hi).1]
theorem flI_01 (b : Bool) : flI b = 0 ∨ flI b = 1 := by cases b <;> decide
theorem sub48 {a b : Nat} (ha : a ≤ 255) (hb : b ≤ 255) : (nI a - (48 : Int32) = nI b - 48) = (a = b) := by
  apply propext
  constructor
  · intro h
    have : nI a - 48 + 48 = nI b - 48 + 48 := by rw [h]
    rw [Int32.sub_add_cancel, Int32.sub_add_cancel, nEq (by omega) (by omega)] at this
    exact this
  · intro h; rw [h]
theorem std_c {T : St} {t : Nat → Nat} (h : TxC T t) {p rm : Nat} (hp : p < 80) (hr : rm ≤ 12) : f_X8_standsInLine (nI p) (nI rm) T = some (flI (stN t rm p), T) := by
  unfold f_X8_standsInLine stN
  have e5 : nI p - nI p / (5 : Int32) * (5 : Int32) = nI (p % 5) := nRem (a := p) (b := 5) (by omega) (by omega)
  have d5 : nI p / (5 : Int32) = nI (p / 5) := nDiv (a := p) (b := 5) (by omega) (by omega)
  rw [e5, d5]
  have c0 : (nI (p % 5) = (0 : Int32)) = (p % 5 = 0) := nEq (a := p % 5) (b := 0) (by omega) (by omega)
  have c1 : (nI (p % 5) = (1 : Int32)) = (p % 5 = 1) := nEq (a := p % 5) (b := 1) (by omega) (by omega)
  have c2 : (nI (p % 5) = (2 : Int32)) = (p % 5 = 2) := nEq (a := p % 5) (b := 2) (by omega) (by omega)
  have c3 : (nI (p % 5) = (3 : Int32)) = (p % 5 = 3) := nEq (a := p % 5) (b := 3) (by omega) (by omega)
  have w1 : f_X8_within (nI p) (48 : Int32) (55 : Int32) T = some (flI (decide (48 ≤ t p ∧ t p ≤ 55)), T) := wth_c h hp (by decide) (by decide)
  have w2 : f_X8_within (nI p) (49 : Int32) (57 : Int32) T = some (flI (decide (49 ≤ t p ∧ t p ≤ 57)), T) := wth_c h hp (by decide) (by decide)
  have w3 : f_X8_within (nI p) (48 : Int32) (57 : Int32) T = some (flI (decide (48 ≤ t p ∧ t p ≤ 57)), T) := wth_c h hp (by decide) (by decide)
  have w4 : f_X8_within (nI p) (59 : Int32) (59 : Int32) T = some (flI (decide (59 ≤ t p ∧ t p ≤ 59)), T) := wth_c h hp (by decide) (by decide)
  rw [w1, w2, w3, w4, bd_e, bd_e, bd_e, bd_e, bd_e, if_pos (flI_01 _), if_pos (flI_01 _), if_pos (flI_01 _)]
  by_cases g0 : p % 5 = 0
  · rw [if_pos (c0.mpr g0), if_pos g0]
    by_cases g : p / 5 < rm
    · rw [if_neg (by rw [nLe (by omega) (by omega)]; omega)]
      by_cases z : 48 ≤ t p ∧ t p ≤ 55
      · rw [decide_eq_true z, if_neg (show ¬ flI true = 0 by decide), decide_eq_true ⟨g, z⟩]; rfl
      · rw [decide_eq_false z, if_pos (show flI false = 0 from rfl), decide_eq_false (fun y => z y.2)]; rfl
    · rw [if_pos (by rw [nLe (by omega) (by omega)]; omega), decide_eq_false (fun y => g y.1)]; rfl
  · rw [if_neg (fun y => g0 (c0.mp y)), if_neg g0]
    by_cases g1 : p % 5 = 1
    · rw [if_pos (c1.mpr g1), if_pos g1]
      by_cases z : 48 ≤ t p ∧ t p ≤ 55
      · have k2 := (h (p - 1) (by omega)).2
        have s48 := sub48 (a := t p) (b := t (p - 1)) (by omega) k2
        rw [decide_eq_true z, if_neg (show ¬ flI true = 0 by decide), dig_c h hp, bd_e, show nI p - (1 : Int32) = nI (p - 1) from m1 (by omega), dig_c h (by omega), bd_e]
        by_cases y : t p = t (p - 1)
        · rw [if_pos (s48.mpr y), decide_eq_false (fun x => x.2.2 y)]; rfl
        · rw [if_neg (fun x => y (s48.mp x)), decide_eq_true ⟨z.1, z.2, y⟩]; rfl
      · rw [decide_eq_false z, if_pos (show flI false = 0 from rfl), decide_eq_false (fun y => z ⟨y.1, y.2.1⟩)]; rfl
    · rw [if_neg (fun y => g1 (c1.mp y)), if_neg g1]
      by_cases g2 : p % 5 = 2
      · rw [if_pos (c2.mpr g2), if_pos g2]
      · rw [if_neg (fun y => g2 (c2.mp y)), if_neg g2]
        by_cases g3 : p % 5 = 3
        · rw [if_pos (c3.mpr g3), if_pos g3]
        · rw [if_neg (fun y => g3 (c3.mp y)), if_neg g3]
          congr 2
          congr 1
          apply decide_eq_decide.mpr
          omega
/-- how far the lines go -/
theorem fol_c {T : St} {t : Nat → Nat} (h : TxC T t) {n rm p : Nat} (hn : n ≤ 80) (hT : gI T 1 1 = nI n) (hr : rm ≤ 12) (hp : p ≤ min n 59) (h1 : ∀ i, i < p → stN t rm i = true) (h2 : p < min n 59 → stN t rm p = false) : f_X8_faultOfLines (nI rm) T = some (if p = min n 59 ∧ p % 5 = 4 ∧ n ≤ 59 then -1 else nI p, T) := by
  unfold f_X8_faultOfLines
  have em : mnI (nI n) (59 : Int32) = nI (min n 59) := mnNI (a := n) (b := 59) (by omega) (by omega)
  rw [hT, em, lt_e]
  have e5 : nI (min n 59) - nI (min n 59) / (5 : Int32) * (5 : Int32) = nI (min n 59 % 5) := nRem (b := 5) (by omega) (by omega)
  have c4 : (nI (min n 59 % 5) = (4 : Int32)) = (min n 59 % 5 = 4) := nEq (b := 4) (by omega) (by omega)
  rw [e5]
  have h0 := lp_ex (body := f_X8_faultOfLines_12b (nI rm) (nI (min n 59)) (fun v5 S6 => (if nI (min n 59 % 5) = (4 : Int32) then f_X8_faultOfLines_46 (nI (min n 59)) (0 : Int32) S6 else f_X8_faultOfLines_46 (nI (min n 59)) (1 : Int32) S6))) (Q := fun z => z = some (if p = min n 59 ∧ p % 5 = 4 ∧ n ≤ 59 then -1 else nI p, T)) p (fun i v S => v = nI i ∧ S = T) (fun i k v S hi hI => ?_) (fun k v S hI => ?_) FU 0 (0 : Int32) T (by omega) (by unfold FU; omega) ⟨rfl, rfl⟩
  · exact h0
  · obtain ⟨rfl, rfl⟩ := hI
    refine ⟨_, _, ?_, rfl, rfl⟩
    unfold f_X8_faultOfLines_12b
    rw [if_neg (by rw [nLe (by omega) (by omega)]; omega), std_c h (by omega) hr, bd_e, h1 i hi, if_neg (show ¬ flI true = 0 by decide), a1]
  · obtain ⟨rfl, rfl⟩ := hI
    unfold f_X8_faultOfLines_12b
    by_cases g : p < min n 59
    · rw [if_neg (by rw [nLe (by omega) (by omega)]; omega), std_c h (by omega) hr, bd_e, h2 g, if_pos (show flI false = 0 from rfl), if_neg (fun z => by omega)]
    · have e : p = min n 59 := by omega
      rw [if_pos (by rw [nLe (by omega) (by omega)]; omega)]
      unfold f_X8_faultOfLines_46 f_X8_faultOfLines_60
      dsimp only
      rw [if_pos (show (0 : Int32) = 0 from rfl), if_neg (show ¬ (1 : Int32) = 0 by decide), hT]
      have e59 : (nI n ≤ (59 : Int32)) = (n ≤ 59) := nLe (b := 59) (by omega) (by omega)
      rw [← e] at c4 ⊢
      by_cases g4 : p % 5 = 4
      · rw [if_pos (c4.mpr g4)]
        by_cases g5 : n ≤ 59
        · rw [if_pos (e59.mpr g5), if_pos ⟨rfl, g4, g5⟩]
        · rw [if_neg (fun z => g5 (e59.mp z)), if_neg (fun z => g5 z.2.2)]
      · rw [if_neg (fun z => g4 (c4.mp z)), if_neg (fun z => g4 z.2.1)]
