/-! game -/
def gsV (last : Nat) (lz : Nat → Bool) (t its : Nat) : Nat := if t = last then its else if lz t = true then t else if its = 100 then 0 else its
def gvN (lz : Nat → Bool) (M last : Nat) : Nat → Nat := itN (fun d its => gsV last lz (M - d) its) 100
def gCh (lz : Nat → Bool) (M last j v : Nat) : Prop := (v = 100 ∧ ∀ t, j < t → t ≤ M → t = last) ∨ (v = 0 ∧ (∃ t, j < t ∧ t ≤ M ∧ t ≠ last) ∧ ∀ t, j < t → t ≤ M → t ≠ last → lz t = false) ∨ (j < v ∧ v ≤ M ∧ v ≠ last ∧ lz v = true ∧ ∀ t, j < t → t < v → t ≠ last → lz t = false)
theorem gv_ch (lz : Nat → Bool) {M : Nat} (hM : M ≤ 9) (last : Nat) : ∀ d, d ≤ M → gCh lz M last (M - d) (gvN lz M last d) := by
  intro d
  induction d with
  | zero => intro _; exact Or.inl ⟨rfl, fun t h1 h2 => by omega⟩
  | succ d ih =>
    intro hd
    have h := ih (by omega)
    have es : gvN lz M last (d + 1) = gsV last lz (M - d) (gvN lz M last d) := rfl
    rw [es]
    generalize gvN lz M last d = v at h
    unfold gsV
    by_cases e1 : M - d = last
    · rw [if_pos e1]
      rcases h with ⟨h1, h2⟩ | ⟨h1, ⟨t, h2, h3, h4⟩, h5⟩ | ⟨h1, h2, h3, h4, h5⟩
      · refine Or.inl ⟨h1, fun t a b => ?_⟩
        by_cases e : t = M - d
        · omega
        · exact h2 t (by omega) b
      · refine Or.inr (Or.inl ⟨h1, ⟨t, by omega, h3, h4⟩, fun t a b c => h5 t (by omega) b c⟩)
      · exact Or.inr (Or.inr ⟨by omega, h2, h3, h4, fun t a b c => h5 t (by omega) b c⟩)
    · rw [if_neg e1]
      cases g : lz (M - d) with
      | true =>
        rw [if_pos rfl]
        exact Or.inr (Or.inr ⟨by omega, by omega, e1, g, fun t a b _ => by omega⟩)
      | false =>
        rw [if_neg (by simp)]
        rcases h with ⟨h1, h2⟩ | ⟨h1, ⟨t, h2, h3, h4⟩, h5⟩ | ⟨h1, h2, h3, h4, h5⟩
        · rw [if_pos h1]
          refine Or.inr (Or.inl ⟨rfl, ⟨M - d, by omega, by omega, e1⟩, fun t a b c => ?_⟩)
          by_cases e : t = M - d
          · rw [e]; exact g
          · exact absurd (h2 t (by omega) b) c
        · rw [if_neg (by omega)]
          refine Or.inr (Or.inl ⟨h1, ⟨t, by omega, h3, h4⟩, fun t a b c => ?_⟩)
          by_cases e : t = M - d
          · rw [e]; exact g
          · exact h5 t (by omega) b c
        · rw [if_neg (by omega)]
          refine Or.inr (Or.inr ⟨by omega, h2, h3, h4, fun t a b c => ?_⟩)
          by_cases e : t = M - d
          · rw [e]; exact g
          · exact h5 t (by omega) b c
/-- the table, row by row -/
def gmV (k : Nat) (tb : Nat → Nat → Nat) (left last : Nat) : Nat := gvN (fun t => decide (tb (left - t) t = 0)) (min k left) last (min k left)
def gmT (k : Nat) : Nat → Nat → Nat → Nat
  | 0 => fun _ _ => 0
  | i + 1 => fun l last => if l = i then gmV k (gmT k i) i last else gmT k i l last
def gmL (k left t : Nat) : Bool := decide (gmT k left (left - t) t = 0)
theorem gm_ch (k left last : Nat) (hk : k ≤ 9) : gCh (gmL k left) (min k left) last 0 (gmT k (left + 1) left last) := by
  have e : gmT k (left + 1) left last = gmV k (gmT k left) left last := by
    rw [gmT, if_pos rfl]
  rw [e]
  have := gv_ch (gmL k left) (M := min k left) (by omega) last (min k left) (Nat.le_refl _)
  rw [Nat.sub_self] at this
  exact this
theorem gm_le (k : Nat) (hk : k ≤ 9) : ∀ i l last, gmT k i l last ≤ 100 := by
  intro i
  induction i with
  | zero => intro l last; exact Nat.zero_le _
  | succ i ih =>
    intro l last
    by_cases e : l = i
    · subst e
      rcases gm_ch k l last hk with ⟨h, _⟩ | ⟨h, _⟩ | ⟨_, h, _⟩ <;> omega
    · rw [gmT, if_neg e]; exact ih l last
theorem gm_st (k i l last : Nat) (h : l < i) : gmT k (i + 1) l last = gmT k i l last := by rw [gmT, if_neg (by omega)]
/-- the class's masks -/
def gmG (k left : Nat) : Nat := orN (fun t => decide (1 ≤ t) && gmL k left t) (min k left + 1)
def gmW (k left : Nat) : Nat := orN (fun last => decide (gmT k (left + 1) left last ≠ 0)) (k + 1)
theorem clr0 {x n : Nat} (hx : x < 4294967296) : clrN x n = 0 ↔ ∀ i, i ≠ n → x.testBit i = false := by
  unfold clrN
  have tb : ∀ i, (x &&& (2 ^ n ^^^ 4294967295)).testBit i = (x.testBit i && (decide (n = i) ^^ decide (i < 32))) := fun i => by
    rw [Nat.testBit_and, Nat.testBit_xor, Nat.testBit_two_pow, show (4294967295 : Nat) = 2 ^ 32 - 1 from rfl, Nat.testBit_two_pow_sub_one]
  have hi32 : ∀ i, 32 ≤ i → x.testBit i = false := fun i hi => Nat.testBit_lt_two_pow (Nat.lt_of_lt_of_le (show x < 2 ^ 32 from hx) (Nat.pow_le_pow_right (by omega) hi))
  constructor
  · intro h i hi
    have := tb i
    rw [h, Nat.zero_testBit, decide_eq_false (fun e => hi e.symm)] at this
    by_cases g : i < 32
    · rw [decide_eq_true g] at this
      cases z : x.testBit i with
      | false => rfl
      | true => rw [z] at this; cases this
    · exact hi32 i (by omega)
  · intro h
    apply Nat.eq_of_testBit_eq
    intro i
    rw [tb, Nat.zero_testBit]
    by_cases e : n = i
    · by_cases g : i < 32
      · rw [decide_eq_true e, decide_eq_true g]; simp
      · rw [hi32 i (by omega)]; rfl
    · rw [h i (fun z => e z.symm)]; rfl
theorem good_c {T : St} {k left : Nat} (hk : k ≤ 9) (hk2 : 2 ≤ k) (hl : left ≤ 60) (h : ∀ l, l < left → gI T 121 l = nI (gmW k l)) : f_X10_goodMoves (nI left) (nI k) T = some (nI (gmG k left), T) := by
  have gl : gmG k left < 2147483648 := by
    have := orN_lt (fun t => decide (1 ≤ t) && gmL k left t) (min k left + 1)
    have h2 : 2 ^ (min k left + 1) ≤ 2 ^ 10 := Nat.pow_le_pow_right (by omega) (by omega)
    unfold gmG; omega
  have h0 := lp_for (body := f_X10_goodMoves_5b (nI left) (nI k) (fun v4 S5 => some (v4.1, S5))) (min k left) (fun i => ((nI (orN (fun t => decide (1 ≤ t) && gmL k left t) (i + 1)), nI (i + 1)), T)) (out := some (nI (gmG k left), T)) (fun i kk hi => ?_) (fun kk => ?_) FU 0 (by omega) (by unfold FU; omega)
  · have e0 : orN (fun t => decide (1 ≤ t) && gmL k left t) (0 + 1) = 0 := by
      show (if (decide (1 ≤ 0) && gmL k left 0) = true then _ else 0) = 0
      rw [decide_eq_false (by omega), Bool.false_and, if_neg (by simp)]
    simp only [e0] at h0
    exact h0
  · have wl : gmW k (left - (i + 1)) < 2147483648 := by
      have := orN_lt (fun last => decide (gmT k (left - (i + 1) + 1) (left - (i + 1)) last ≠ 0)) (k + 1)
      have h2 : 2 ^ (k + 1) ≤ 2 ^ 10 := Nat.pow_le_pow_right (by omega) (by omega)
      unfold gmW; omega
    have tbW : (gmW k (left - (i + 1))).testBit (i + 1) = !gmL k left (i + 1) := by
      unfold gmW
      rw [orN_tb, decide_eq_true (show i + 1 < k + 1 by omega), Bool.true_and]
      have st : ∀ d l, l < left → left = l + 1 + d → gmT k (l + 1) l (i + 1) = gmT k left l (i + 1) := by
        intro d
        induction d with
        | zero => intro l _ e; rw [e]
        | succ d ih =>
          intro l hl e
          have key : ∀ d j, j = l + 1 + d → gmT k j l (i + 1) = gmT k (l + 1) l (i + 1) := by
            intro d
            induction d with
            | zero => intro j hj; rw [hj]
            | succ d ih2 => intro j hj; rw [hj, show l + 1 + (d + 1) = (l + 1 + d) + 1 by omega, gm_st k _ l _ (by omega), ih2 _ rfl]
          exact (key (d + 1) left e).symm
      rw [st (left - (left - (i + 1)) - 1) (left - (i + 1)) (by omega) (by omega)]
      unfold gmL
      by_cases z : gmT k left (left - (i + 1)) (i + 1) = 0
      · rw [decide_eq_true z, decide_eq_false (fun h => h z)]; rfl
      · rw [decide_eq_false z, decide_eq_true z]; rfl
    have hsr : nI (gmW k (left - (i + 1))) >>> (nI (i + 1) &&& 31) &&& (1 : Int32) = (if gmL k left (i + 1) = true then 0 else 1) := by
      have hh := hasN (j := gmW k (left - (i + 1))) (n := i + 1) wl (by omega)
      rw [tbW] at hh
      cases g : gmL k left (i + 1) with
      | false =>
        rw [g] at hh
        rw [if_neg (by simp)]
        exact hh.mpr rfl
      | true =>
        rw [g] at hh
        rw [if_pos rfl]
        have e1 : nI (gmW k (left - (i + 1))) >>> (nI (i + 1) &&& 31) = nI (gmW k (left - (i + 1)) >>> (i + 1)) := nShr wl (by omega)
        rw [e1, show (1 : Int32) = nI 1 from rfl, nAnd]
        rw [show (31 : Int32) = nI 31 from rfl] at e1
        rw [e1, nAnd] at hh
        have h2 : gmW k (left - (i + 1)) >>> (i + 1) &&& 1 = 0 ∨ gmW k (left - (i + 1)) >>> (i + 1) &&& 1 = 1 := by rw [Nat.and_one_is_mod]; omega
        rcases h2 with h2 | h2
        · rw [h2]; rfl
        · rw [h2] at hh; have := hh.mp rfl; cases this
    unfold f_X10_goodMoves_5b f_X10_goodMoves_41
    simp only
    rw [if_neg (by rw [nLt (by omega) (by omega)]; omega), if_neg (by rw [nLt (by omega) (by omega)]; omega), nSub (by omega), if_pos (show inb (nI (left - (i + 1))) 61 by rw [inb_nI (by omega)]; omega), nI_t (by omega), h _ (by omega), lt_e, hsr, ← orN_s (p := fun t => decide (1 ≤ t) && gmL k left t) (n := i + 1) (by omega)]
    cases g : gmL k left (i + 1) with
    | false => rw [if_neg (by simp), if_neg (show ¬ (1 : Int32) = 0 by decide), if_neg (by rw [g]; simp), a1]
    | true => rw [if_pos rfl, if_pos rfl, lt_e, if_pos (by rw [g, decide_eq_true (by omega)]; rfl), a1]; rfl
  · unfold f_X10_goodMoves_5b
    simp only
    by_cases e : k < min k left + 1
    · rw [if_pos (by rw [nLt (by omega) (by omega)]; exact e)]; rfl
    · rw [if_neg (by rw [nLt (by omega) (by omega)]; exact e), if_pos (by rw [nLt (by omega) (by omega)]; omega)]; rfl
