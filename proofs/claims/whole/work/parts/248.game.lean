/-! game -/
def gsV (last : Nat) (lz : Nat → Bool) (t its : Nat) : Nat := if t = last then its else if lz t = true then t else if its = 100 then 0 else its
def gvN (lz : Nat → Bool) (M last : Nat) : Nat → Nat := itN (fun d its => gsV last lz (M - d) its) 100
def gCh (lz : Nat → Bool) (M last j v : Nat) : Prop := (v = 100 ∧ ∀ t, j < t → t ≤ M → t = last) ∨ (v = 0 ∧ (∃ t, j < t ∧ t ≤ M ∧ t ≠ last) ∧ ∀ t, j < t → t ≤ M → t ≠ last → lz t = false) ∨ (j < v ∧ v ≤ M ∧ v ≠ last ∧ lz v = true ∧ ∀ t, j < t → t < v → t ≠ last → lz t = false)
theorem gv_ch (lz : Nat → Bool) {M : Nat} (hM : M ≤ 9) (last : Nat) : ∀ d, d ≤ M → gCh lz M last (M - d) (gvN lz M last d) := by
  intro d
  induction d with
  | zero => intro _; exact Or.inl ⟨rfl, fun t h1 h2 => by omega⟩
  | succ d ih =>
    intro hd
    have h := ih (by omega)
    have es : gvN lz M last (d + 1) = gsV last lz (M - d) (gvN lz M last d) := rfl
    rw [es]
    generalize gvN lz M last d = v at h
    unfold gsV
    by_cases e1 : M - d = last
    · rw [if_pos e1]
      rcases h with ⟨h1, h2⟩ | ⟨h1, ⟨t, h2, h3, h4⟩, h5⟩ | ⟨h1, h2, h3, h4, h5⟩
      · refine Or.inl ⟨h1, fun t a b => ?_⟩
        by_cases e : t = M - d
        · omega
        · exact h2 t (by omega) b
      · refine Or.inr (Or.inl ⟨h1, ⟨t, by omega, h3, h4⟩, fun t a b c => h5 t (by omega) b c⟩)
      · exact Or.inr (Or.inr ⟨by omega, h2, h3, h4, fun t a b c => h5 t (by omega) b c⟩)
    · rw [if_neg e1]
      cases g : lz (M - d) with
      | true =>
        rw [if_pos rfl]
        exact Or.inr (Or.inr ⟨by omega, by omega, e1, g, fun t a b _ => by omega⟩)
      | false =>
        rw [if_neg (by simp)]
        rcases h with ⟨h1, h2⟩ | ⟨h1, ⟨t, h2, h3, h4⟩, h5⟩ | ⟨h1, h2, h3, h4, h5⟩
        · rw [if_pos h1]
          refine Or.inr (Or.inl ⟨rfl, ⟨M - d, by omega, by omega, e1⟩, fun t a b c => ?_⟩)
          by_cases e : t = M - d
          · rw [e]; exact g
          · exact absurd (h2 t (by omega) b) c
        · rw [if_neg (by omega)]
          refine Or.inr (Or.inl ⟨h1, ⟨t, by omega, h3, h4⟩, fun t a b c => ?_⟩)
          by_cases e : t = M - d
          · rw [e]; exact g
          · exact h5 t (by omega) b c
        · rw [if_neg (by omega)]
          refine Or.inr (Or.inr ⟨by omega, h2, h3, h4, fun t a b c => ?_⟩)
          by_cases e : t = M - d
          · rw [e]; exact g
          · exact h5 t (by omega) b c
/-- the table, row by row -/
def gmV (k : Nat) (tb : Nat → Nat → Nat) (left last : Nat) : Nat := gvN (fun t => decide (tb (left - t) t = 0)) (min k left) last (min k left)
def gmT (k : Nat) : Nat → Nat → Nat → Nat
  | 0 => fun _ _ => 0
  | i + 1 => fun l last => if l = i then gmV k (gmT k i) i last else gmT k i l last
theorem gmT_s (k i l last : Nat) : gmT k (i + 1) l last = if l = i then gmV k (gmT k i) i last else gmT k i l last := rfl
def gmL (k left t : Nat) : Bool := decide (gmT k left (left - t) t = 0)
theorem gm_ch (k left last : Nat) (hk : k ≤ 9) : gCh (gmL k left) (min k left) last 0 (gmT k (left + 1) left last) := by
  have e : gmT k (left + 1) left last = gmV k (gmT k left) left last := by
    rw [gmT_s, if_pos rfl]
  rw [e]
  have := gv_ch (gmL k left) (M := min k left) (by omega) last (min k left) (Nat.le_refl _)
  rw [Nat.sub_self] at this
  exact this
theorem gm_le (k : Nat) (hk : k ≤ 9) : ∀ i l last, gmT k i l last ≤ 100 := by
  intro i
  induction i with
  | zero => intro l last; exact Nat.zero_le _
  | succ i ih =>
    intro l last
    by_cases e : l = i
    · subst e
      rcases gm_ch k l last hk with ⟨h, _⟩ | ⟨h, _⟩ | ⟨_, h, _⟩ <;> omega
    · rw [gmT_s, if_neg e]; exact ih l last
theorem gm_st (k i l last : Nat) (h : l < i) : gmT k (i + 1) l last = gmT k i l last := by rw [gmT_s, if_neg (by omega)]
/-- the class's masks -/
def gmG (k left : Nat) : Nat := orN (fun t => decide (1 ≤ t) && gmL k left t) (min k left + 1)
def gmW (k left : Nat) : Nat := orN (fun last => decide (gmT k (left + 1) left last ≠ 0)) (k + 1)
theorem clr0 {x n : Nat} (hx : x < 4294967296) : clrN x n = 0 ↔ ∀ i, i ≠ n → x.testBit i = false := by
  unfold clrN
  have tb : ∀ i, (x &&& (2 ^ n ^^^ 4294967295)).testBit i = (x.testBit i && (decide (n = i) ^^ decide (i < 32))) := fun i => by
    rw [Nat.testBit_and, Nat.testBit_xor, Nat.testBit_two_pow, show (4294967295 : Nat) = 2 ^ 32 - 1 from rfl, Nat.testBit_two_pow_sub_one]
  have hi32 : ∀ i, 32 ≤ i → x.testBit i = false := fun i hi => Nat.testBit_lt_two_pow (Nat.lt_of_lt_of_le (show x < 2 ^ 32 from hx) (Nat.pow_le_pow_right (by omega) hi))
  constructor
  · intro h i hi
    have := tb i
    rw [h, Nat.zero_testBit, decide_eq_false (fun e => hi e.symm)] at this
    by_cases g : i < 32
    · rw [decide_eq_true g] at this
      cases z : x.testBit i with
      | false => rfl
      | true => rw [z] at this; cases this
    · exact hi32 i (by omega)
  · intro h
    apply Nat.eq_of_testBit_eq
    intro i
    rw [tb, Nat.zero_testBit]
    by_cases e : n = i
    · by_cases g : i < 32
      · rw [decide_eq_true e, decide_eq_true g]; simp
      · rw [hi32 i (by omega)]; rfl
    · rw [h i (fun z => e z.symm)]; rfl
theorem good_c {T : St} {k left : Nat} (hk : k ≤ 9) (hk2 : 2 ≤ k) (hl : left ≤ 60) (h : ∀ l, l < left → gI T 121 l = nI (gmW k l)) : f_X10_goodMoves (nI left) (nI k) T = some (nI (gmG k left), T) := by
  have gl : gmG k left < 2147483648 := by
    have := orN_lt (fun t => decide (1 ≤ t) && gmL k left t) (min k left + 1)
    have h2 : 2 ^ (min k left + 1) ≤ 2 ^ 10 := Nat.pow_le_pow_right (by omega) (by omega)
    unfold gmG; omega
  have h0 := lp_for (body := f_X10_goodMoves_5b (nI left) (nI k) (fun v4 S5 => some (v4.1, S5))) (min k left) (fun i => ((nI (orN (fun t => decide (1 ≤ t) && gmL k left t) (i + 1)), nI (i + 1)), T)) (out := some (nI (gmG k left), T)) (fun i kk hi => ?_) (fun kk => ?_) FU 0 (by omega) (by unfold FU; omega)
  · have e0 : orN (fun t => decide (1 ≤ t) && gmL k left t) (0 + 1) = 0 := by
      show (if (decide (1 ≤ 0) && gmL k left 0) = true then _ else 0) = 0
      rw [decide_eq_false (by omega), Bool.false_and, if_neg (by simp)]
    simp only [e0] at h0
    exact h0
  · have wl : gmW k (left - (i + 1)) < 2147483648 := by
      have := orN_lt (fun last => decide (gmT k (left - (i + 1) + 1) (left - (i + 1)) last ≠ 0)) (k + 1)
      have h2 : 2 ^ (k + 1) ≤ 2 ^ 10 := Nat.pow_le_pow_right (by omega) (by omega)
      unfold gmW; omega
    have tbW : (gmW k (left - (i + 1))).testBit (i + 1) = !gmL k left (i + 1) := by
      unfold gmW
      rw [orN_tb, decide_eq_true (show i + 1 < k + 1 by omega), Bool.true_and]
      have st : ∀ d l, l < left → left = l + 1 + d → gmT k (l + 1) l (i + 1) = gmT k left l (i + 1) := by
        intro d
        induction d with
        | zero => intro l _ e; rw [e]
        | succ d ih =>
          intro l hl e
          have key : ∀ d j, j = l + 1 + d → gmT k j l (i + 1) = gmT k (l + 1) l (i + 1) := by
            intro d
            induction d with
            | zero => intro j hj; rw [hj]
            | succ d ih2 => intro j hj; rw [hj, show l + 1 + (d + 1) = (l + 1 + d) + 1 by omega, gm_st k _ l _ (by omega), ih2 _ rfl]
          exact (key (d + 1) left e).symm
      rw [st (left - (left - (i + 1)) - 1) (left - (i + 1)) (by omega) (by omega)]
      unfold gmL
      by_cases z : gmT k left (left - (i + 1)) (i + 1) = 0
      · rw [decide_eq_true z, decide_eq_false (fun h => h z)]; rfl
      · rw [decide_eq_false z, decide_eq_true z]; rfl
    have hsr : nI (gmW k (left - (i + 1))) >>> (nI (i + 1) &&& 31) &&& (1 : Int32) = (if gmL k left (i + 1) = true then 0 else 1) := by
      have hh := hasN (j := gmW k (left - (i + 1))) (n := i + 1) wl (by omega)
      rw [tbW] at hh
      cases g : gmL k left (i + 1) with
      | false =>
        rw [g] at hh
        rw [if_neg (by simp)]
        exact hh.mpr rfl
      | true =>
        rw [g] at hh
        rw [if_pos rfl]
        have e1 : nI (gmW k (left - (i + 1))) >>> (nI (i + 1) &&& 31) = nI (gmW k (left - (i + 1)) >>> (i + 1)) := nShr wl (by omega)
        rw [e1, show (1 : Int32) = nI 1 from rfl, nAnd]
        rw [show (31 : Int32) = nI 31 from rfl] at e1
        rw [e1, nAnd] at hh
        have h2 : gmW k (left - (i + 1)) >>> (i + 1) &&& 1 = 0 ∨ gmW k (left - (i + 1)) >>> (i + 1) &&& 1 = 1 := by rw [Nat.and_one_is_mod]; omega
        rcases h2 with h2 | h2
        · rw [h2]; rfl
        · rw [h2] at hh; have := hh.mp rfl; cases this
    unfold f_X10_goodMoves_5b f_X10_goodMoves_41
    simp only
    rw [if_neg (by rw [nLt (by omega) (by omega)]; omega), if_neg (by rw [nLt (by omega) (by omega)]; omega), nSub (by omega), if_pos (show inb (nI (left - (i + 1))) 61 by rw [inb_nI (by omega)]; omega), nI_t (by omega), h _ (by omega), lt_e, hsr, ← orN_s (p := fun t => decide (1 ≤ t) && gmL k left t) (n := i + 1) (by omega)]
    cases g : gmL k left (i + 1) with
    | false => rw [if_neg (by simp), if_neg (by simp), a1]
    | true => rw [if_pos rfl, if_pos rfl, lt_e, if_pos (by rw [decide_eq_true (by omega)]; rfl), a1]; rfl
  · unfold f_X10_goodMoves_5b
    simp only
    by_cases e : k < min k left + 1
    · rw [if_pos (by rw [nLt (by omega) (by omega)]; exact e)]; rfl
    · rw [if_neg (by rw [nLt (by omega) (by omega)]; exact e), if_pos (by rw [nLt (by omega) (by omega)]; omega)]; rfl
theorem mv_e : ∀ M, M ≤ 9 → ((1 : Int32) <<< ((nI M + 1) &&& 31)) - 2 = nI (orN (fun t => decide (1 ≤ t)) (M + 1)) := by decide
theorem wb_i {k left : Nat} (hk : k ≤ 9) (last : Nat) : (clrN (gmG k left) last = 0 ∧ ¬ clrN (orN (fun t => decide (1 ≤ t)) (min k left + 1)) last = 0) ↔ gmT k (left + 1) left last = 0 := by
  have gl : gmG k left < 4294967296 := by
    have := orN_lt (fun t => decide (1 ≤ t) && gmL k left t) (min k left + 1)
    have h2 : 2 ^ (min k left + 1) ≤ 2 ^ 10 := Nat.pow_le_pow_right (by omega) (by omega)
    unfold gmG; omega
  have ml : orN (fun t => decide (1 ≤ t)) (min k left + 1) < 4294967296 := by
    have := orN_lt (fun t => decide (1 ≤ t)) (min k left + 1)
    have h2 : 2 ^ (min k left + 1) ≤ 2 ^ 10 := Nat.pow_le_pow_right (by omega) (by omega)
    omega
  have tG : ∀ t, (gmG k left).testBit t = true ↔ (t < min k left + 1 ∧ 1 ≤ t ∧ gmL k left t = true) := fun t => by
    unfold gmG; rw [orN_tb]; simp
  have tM : ∀ t, (orN (fun t => decide (1 ≤ t)) (min k left + 1)).testBit t = true ↔ (t < min k left + 1 ∧ 1 ≤ t) := fun t => by
    rw [orN_tb]; simp
  rw [clr0 gl, clr0 ml]
  have ch := gm_ch k left last hk
  generalize gmT k (left + 1) left last = v at ch
  rcases ch with ⟨h1, h2⟩ | ⟨h1, ⟨t, h2, h3, h4⟩, h5⟩ | ⟨h1, h2, h3, h4, h5⟩
  · constructor
    · rintro ⟨_, n2⟩
      exfalso
      apply n2
      intro i hi
      cases g : (orN (fun t => decide (1 ≤ t)) (min k left + 1)).testBit i with
      | false => rfl
      | true => obtain ⟨a, b⟩ := (tM i).mp g; exact absurd (h2 i (by omega) (by omega)) hi
    · intro h; omega
  · constructor
    · intro _; exact h1
    · intro _
      refine ⟨fun i hi => ?_, fun h => ?_⟩
      · cases g : (gmG k left).testBit i with
        | false => rfl
        | true =>
          obtain ⟨a, b, d⟩ := (tG i).mp g
          rw [h5 i (by omega) (by omega) hi] at d; cases d
      · have := h t h4
        rw [(tM t).mpr ⟨by omega, by omega⟩] at this; cases this
  · constructor
    · rintro ⟨n1, _⟩
      have := n1 v h3
      rw [(tG v).mpr ⟨by omega, by omega, h4⟩] at this; cases this
    · intro h; omega
theorem wins_c {T : St} {k left : Nat} (hk : k ≤ 9) (hl : left ≤ 60) : f_X10_winsBehind (nI left) (nI k) (nI (gmG k left)) T = some (nI (gmW k left), T) := by
  have gl : gmG k left < 2147483648 := by
    have := orN_lt (fun t => decide (1 ≤ t) && gmL k left t) (min k left + 1)
    have h2 : 2 ^ (min k left + 1) ≤ 2 ^ 10 := Nat.pow_le_pow_right (by omega) (by omega)
    unfold gmG; omega
  have ml : orN (fun t => decide (1 ≤ t)) (min k left + 1) < 2147483648 := by
    have := orN_lt (fun t => decide (1 ≤ t)) (min k left + 1)
    have h2 : 2 ^ (min k left + 1) ≤ 2 ^ 10 := Nat.pow_le_pow_right (by omega) (by omega)
    omega
  have wb := wb_i (left := left) hk
  unfold f_X10_winsBehind
  rw [mnNI (by omega) (by omega), Nat.min_comm left k, mv_e _ (by omega), lt_e]
  generalize hG : gmG k left = G at *
  generalize hV : orN (fun t => decide (1 ≤ t)) (min k left + 1) = V at *
  refine lp_for (body := f_X10_winsBehind_18b (nI k) (nI G) (nI V) (fun v4 S5 => some (v4.1, S5))) (k + 1) (fun i => ((nI (orN (fun last => decide (gmT k (left + 1) left last ≠ 0)) i), nI i), T)) (out := some (nI (gmW k left), T)) (fun i kk hi => ?_) (fun kk => ?_) FU 0 (by omega) (by unfold FU; omega)
  · have c1 := clrN_le G i
    have c2 := clrN_le V i
    have k1 : nI G &&& ((1 : Int32) <<< (nI i &&& 31) ^^^ (-1 : Int32)) = nI (clrN G i) := nClr (by omega)
    have k2 : nI V &&& ((1 : Int32) <<< (nI i &&& 31) ^^^ (-1 : Int32)) = nI (clrN V i) := nClr (by omega)
    unfold f_X10_winsBehind_18b f_X10_winsBehind_46 f_X10_winsBehind_55
    simp only
    rw [if_neg (by rw [nLt (by omega) (by omega)]; omega), lt_e, k1, k2, ← orN_s (p := fun last => decide (gmT k (left + 1) left last ≠ 0)) (n := i) (by omega), lt_e]
    have wi := wb i
    by_cases g1 : clrN G i = 0
    · rw [if_pos (show nI (clrN G i) = 0 by rw [g1]; rfl)]
      by_cases g2 : clrN V i = 0
      · have nz : ¬ gmT k (left + 1) left i = 0 := fun h => (wi.mpr h).2 g2
        rw [if_pos (show nI (clrN V i) = 0 by rw [g2]; rfl), if_pos (decide_eq_true nz), a1]; rfl
      · have z := wi.mp ⟨g1, g2⟩
        rw [if_neg (show ¬ nI (clrN V i) = 0 by rw [lit, nEq (by omega) (by omega)]; exact g2), if_neg (by rw [decide_eq_false (fun h => h z)]; simp), a1]
    · have nz : ¬ gmT k (left + 1) left i = 0 := fun h => g1 (wi.mpr h).1
      rw [if_neg (show ¬ nI (clrN G i) = 0 by rw [lit, nEq (by omega) (by omega)]; exact g1), if_pos (decide_eq_true nz), a1]; rfl
  · unfold f_X10_winsBehind_18b
    simp only
    rw [if_pos (by rw [nLt (by omega) (by omega)]; omega)]
    rfl
/-- the answer -/
def gmR (k n : Nat) : Nat := gmT k (n + 1) n 0 % 100
theorem gm_ans {T : St} {k n : Nat} (hk : k ≤ 9) : lp (f_X10_game_65b (nI k) (nI (gmG k n)) (fun v11 S12 => some ((0 : Int32), S12))) FU 1 T = some (nI (gmR k n), T) := by
  have gl : gmG k n < 2147483648 := by
    have := orN_lt (fun t => decide (1 ≤ t) && gmL k n t) (min k n + 1)
    have h2 : 2 ^ (min k n + 1) ≤ 2 ^ 10 := Nat.pow_le_pow_right (by omega) (by omega)
    unfold gmG; omega
  have tG : ∀ t, (gmG k n).testBit t = true ↔ (t < min k n + 1 ∧ 1 ≤ t ∧ gmL k n t = true) := fun t => by
    unfold gmG; rw [orN_tb]; simp
  have step : ∀ i, i < 10 → ∀ (e kk : Int32 → St → Option (Int32 × St)), i ≤ k → f_X10_game_65b (nI k) (nI (gmG k n)) e kk (nI i) T = if (gmG k n).testBit i = true then some (nI i, T) else kk (nI (i + 1)) T := by
    intro i hi e kk hik
    have hh := hasN (j := gmG k n) (n := i) gl (by omega)
    unfold f_X10_game_65b
    rw [if_neg (by rw [nLt (by omega) (by omega)]; omega)]
    by_cases g : (gmG k n).testBit i = true
    · rw [if_pos g, if_pos (show nI (gmG k n) >>> (nI i &&& 31) &&& (1 : Int32) = (1 : Int32) from hh.mpr g)]
    · rw [if_neg g, if_neg (show ¬ nI (gmG k n) >>> (nI i &&& 31) &&& (1 : Int32) = (1 : Int32) from fun h => g (hh.mp h)), a1]
  have ch := gm_ch k n 0 hk
  unfold gmR
  generalize gmT k (n + 1) n 0 = v at ch
  have none : (∀ t, 0 < t → t ≤ min k n → gmL k n t = false) → lp (f_X10_game_65b (nI k) (nI (gmG k n)) (fun v11 S12 => some ((0 : Int32), S12))) FU 1 T = some (nI 0, T) := by
    intro h
    refine lp_for (body := f_X10_game_65b (nI k) (nI (gmG k n)) (fun v11 S12 => some ((0 : Int32), S12))) k (fun i => (nI (i + 1), T)) (out := some (nI 0, T)) (fun i kk hi => ?_) (fun kk => ?_) FU 0 (by omega) (by unfold FU; omega)
    · rw [step (i + 1) (by omega) _ _ (by omega), if_neg (by
        intro g
        obtain ⟨a, b, d⟩ := (tG _).mp g
        rw [h _ (by omega) (by omega)] at d; cases d)]
    · unfold f_X10_game_65b
      rw [if_pos (by rw [nLt (by omega) (by omega)]; omega)]; rfl
  rcases ch with ⟨h1, h2⟩ | ⟨h1, _, h5⟩ | ⟨h1, h2, h3, h4, h5⟩
  · rw [h1]
    exact none (fun t a b => by have := h2 t a b; omega)
  · rw [h1]
    exact none (fun t a b => h5 t a b (by omega))
  · rw [Nat.mod_eq_of_lt (show v < 100 by omega)]
    obtain ⟨u, rfl⟩ : ∃ u, v = u + 1 := ⟨v - 1, by omega⟩
    refine lp_for (body := f_X10_game_65b (nI k) (nI (gmG k n)) (fun v11 S12 => some ((0 : Int32), S12))) u (fun i => (nI (i + 1), T)) (out := some (nI (u + 1), T)) (fun i kk hi => ?_) (fun kk => ?_) FU 0 (by omega) (by unfold FU; omega)
    · rw [step (i + 1) (by omega) _ _ (by omega), if_neg (by
        intro g
        obtain ⟨a, b, d⟩ := (tG _).mp g
        rw [h5 _ (by omega) (by omega) (by omega)] at d; cases d)]
    · rw [step (u + 1) (by omega) _ _ (by omega), if_pos ((tG _).mpr ⟨by omega, by omega, h4⟩)]
/-! the reference -/
theorem gi_m {T : St} {k left last : Nat} (hk : k ≤ 9) (hk2 : 2 ≤ k) (hl : left ≤ 60) (hlast : last < 10) (h : ∀ l t, l < left → t < 10 → gI T 153 (10 * l + t) = nI (gmT k left l t)) (x1 : Int32) (e : Int32 × Int32 → St → Option (Int32 × St)) : lp (f_X11_game_61b x1 (nI k) (nI left) (nI last) e) FU (100, nI (min k left)) T = e (nI (gmT k (left + 1) left last), nI 0) T := by
  have hM : min k left ≤ 9 := by omega
  have e0 : gmT k (left + 1) left last = gvN (gmL k left) (min k left) last (min k left) := by rw [gmT_s, if_pos rfl]; rfl
  rw [e0]
  have h0 := lp_for (body := f_X11_game_61b x1 (nI k) (nI left) (nI last) e) (min k left) (fun d => ((nI (gvN (gmL k left) (min k left) last d), nI (min k left - d)), T)) (out := e (nI (gvN (gmL k left) (min k left) last (min k left)), nI 0) T) (fun d kk hd => ?_) (fun kk => ?_) FU 0 (by omega) (by unfold FU; omega)
  · exact h0
  · have es : gvN (gmL k left) (min k left) last (d + 1) = gsV last (gmL k left) (min k left - d) (gvN (gmL k left) (min k left) last d) := rfl
    have ch := gv_ch (gmL k left) hM last d (by omega)
    have vl : gvN (gmL k left) (min k left) last d ≤ 100 := by
      rcases ch with ⟨h, _⟩ | ⟨h, _⟩ | ⟨_, h, _⟩ <;> omega
    rw [es]
    generalize gvN (gmL k left) (min k left) last d = v at vl
    have ht : 1 ≤ min k left - d ∧ min k left - d ≤ 9 ∧ min k left - d ≤ left := by omega
    rw [show min k left - (d + 1) = min k left - d - 1 by omega]
    generalize min k left - d = t at ht
    have tl := gm_le k hk left (left - t) t
    unfold f_X11_game_61b f_X11_game_95 f_X11_game_96 f_X11_game_133 gsV
    simp only
    rw [if_neg (show ¬ nI t ≤ 0 by rw [lit, nLe (by omega) (by omega)]; omega), p1 ht.1]
    by_cases e1 : t = last
    · rw [if_pos (by rw [e1]), if_pos (by rw [e1]), if_pos e1]
    · have ne : ¬ nI t = nI last := by rw [nEq (by omega) (by omega)]; exact e1
      rw [if_neg ne, nSub ht.2.2, show (10 : Int32) * nI (left - t) + nI t = nI (10 * (left - t) + t) by rw [show (10 : Int32) = nI 10 from rfl, nMul, nAdd], if_pos (show inb (nI (10 * (left - t) + t)) 610 by rw [inb_nI (by omega)]; omega), nI_t (by omega), h (left - t) t (by omega) (by omega), if_neg e1]
      simp only [if_neg ne]
      unfold gmL
      by_cases z : gmT k left (left - t) t = 0
      · rw [if_pos (show nI (gmT k left (left - t) t) = 0 by rw [z]; rfl), if_neg (show ¬ (1 : Int32) = 0 by decide), if_pos (decide_eq_true z)]
      · rw [if_neg (show ¬ nI (gmT k left (left - t) t) = 0 by rw [lit, nEq (by omega) (by omega)]; exact z), if_pos trivial]
        have dz : ¬ decide (gmT k left (left - t) t = 0) = true := by rw [decide_eq_false z]; simp
        by_cases g : v = 100
        · rw [if_pos (show nI v = 100 by rw [g]; rfl), if_neg dz, if_pos g]; rfl
        · rw [if_neg (show ¬ nI v = 100 by rw [lit, nEq (by omega) (by omega)]; exact g), if_neg dz, if_neg g]
  · unfold f_X11_game_61b
    simp only
    rw [if_pos (show nI (min k left - min k left) ≤ 0 by rw [Nat.sub_self]; decide), Nat.sub_self]
theorem gr_m {T : St} {k left : Nat} (hk : k ≤ 9) (hk2 : 2 ≤ k) (hl : left ≤ 60) (h : ∀ l t, l < left → t < 10 → gI T 153 (10 * l + t) = nI (gmT k left l t)) (x1 : Int32) (e : Int32 → St → Option (Int32 × St)) : ∃ T', lp (f_X11_game_43b x1 (nI k) (nI left) e) FU 0 T = e (nI 10) T' ∧ Sm (fun a _ => decide (a ≠ 153)) (fun _ => true) T T' ∧ ∀ l t, l < left + 1 → t < 10 → gI T' 153 (10 * l + t) = nI (gmT k (left + 1) l t) := by
  have h0 := lp_ex (body := f_X11_game_43b x1 (nI k) (nI left) e) (Q := fun w => ∃ T', w = e (nI 10) T' ∧ Sm (fun a _ => decide (a ≠ 153)) (fun _ => true) T T' ∧ ∀ l t, l < left + 1 → t < 10 → gI T' 153 (10 * l + t) = nI (gmT k (left + 1) l t)) 10 (fun i v S => v = nI i ∧ Sm (fun a _ => decide (a ≠ 153)) (fun _ => true) T S ∧ (∀ l t, l < left → t < 10 → gI S 153 (10 * l + t) = nI (gmT k left l t)) ∧ ∀ t, t < i → gI S 153 (10 * left + t) = nI (gmT k (left + 1) left t)) (fun i kk v S hi hI => ?_) (fun kk v S hI => ?_) FU 0 (0 : Int32) T (by omega) (by unfold FU; omega) ⟨rfl, Sm.rf T, h, fun t ht => by omega⟩
  · exact h0
  · obtain ⟨rfl, w1, w2, w3⟩ := hI
    refine ⟨nI (i + 1), sI S 153 (10 * left + i) (nI (gmT k (left + 1) left i)), ?_, rfl, w1.sI rfl, fun l t hl ht => ?_, fun t ht => ?_⟩
    · unfold f_X11_game_43b
      rw [if_neg (show ¬ (10 : Int32) ≤ nI i by rw [lit, nLe (by omega) (by omega)]; omega), mnNI (by omega) (by omega), lt_e]
      refine (gi_m hk hk2 hl hi w2 x1 _).trans ?_
      simp only
      rw [show (10 : Int32) * nI left + nI i = nI (10 * left + i) by rw [show (10 : Int32) = nI 10 from rfl, nMul, nAdd], if_pos (show inb (nI (10 * left + i)) 610 by rw [inb_nI (by omega)]; omega), lt_e, nI_t (by omega), a1]
    · rw [gI_s, if_pos rfl, if_neg (by omega)]; exact w2 l t hl ht
    · rw [gI_s, if_pos rfl]
      by_cases e : t = i
      · rw [if_pos (by omega), e]
      · rw [if_neg (by omega)]; exact w3 t (by omega)
  · obtain ⟨rfl, w1, w2, w3⟩ := hI
    refine ⟨S, ?_, w1, fun l t hl ht => ?_⟩
    · unfold f_X11_game_43b
      rw [if_pos (show (10 : Int32) ≤ nI 10 by decide)]
    · by_cases e : l = left
      · rw [e]; exact w3 t ht
      · rw [gm_st k left l t (by omega)]; exact w2 l t (by omega) ht
theorem eq_game : ∀ a1 a2 : Int32, EQ1 RelP (f_X10_game a1 a2) (f_X11_game a1 a2) := by
  intro x y
  apply qr
  intro S c o r hS ok hC hM
  by_cases g0 : ¬ x < nI 0 ∧ ¬ nI 60 < x
  · by_cases g1 : ¬ y < nI 2 ∧ ¬ nI 9 < y
    · obtain ⟨n, hn, rfl⟩ := as_le g0.1 g0.2
      obtain ⟨k, hk, rfl⟩ : ∃ k, k ≤ 9 ∧ y = nI k := as_le (b := 9) (by have := g1.1; rw [i_lt, nI_int (by omega)] at this ⊢; omega) g1.2
      have hk2 : 2 ≤ k := by have := g1.1; rw [nLt (by omega) (by omega)] at this; omega
      refine ⟨nI (gmR k n), none, (fun l e => by cases e), ?_, fun S1 hM1 q1 => ?_⟩
      · unfold f_X10_game
        rw [if_neg (show ¬ nI n < 0 from g0.1), if_neg (show ¬ 60 < nI n from g0.2), if_neg (show ¬ nI k < 2 from g1.1), if_pos (show nI k ≤ 9 by rw [lit, nLe (by omega) (by omega)]; exact hk)]
        have h0 := lp_ex (body := f_X10_game_28b (nI n) (nI k) (fun v9 S10 => lp (f_X10_game_65b (nI k) v9.1 (fun v11 S12 => some ((0 : Int32), S12))) FU (1 : Int32) S10)) (Q := fun w => AC w S (nI (gmR k n)) none) (n + 1) (fun i v T => (∃ z, v = (z, nI i) ∧ (0 < i → z = nI (gmG k (i - 1)))) ∧ Sm (fun a _ => decide (a ≠ 121)) (fun _ => true) S T ∧ ∀ l, l < i → gI T 121 l = nI (gmW k l)) (fun i kk v T hi hI => ?_) (fun kk v T hI => ?_) FU 0 ((0 : Int32), (0 : Int32)) S (by omega) (by unfold FU; omega) ⟨⟨0, rfl, fun h => by omega⟩, Sm.rf S, fun l hl => by omega⟩
        · exact h0
        · obtain ⟨⟨z, rfl, _⟩, w1, w2⟩ := hI
          refine ⟨(nI (gmG k i), nI (i + 1)), sI T 121 i (nI (gmW k i)), ?_, ⟨nI (gmG k i), rfl, fun _ => by rw [Nat.add_sub_cancel]⟩, w1.sI rfl, fun l hl => ?_⟩
          · unfold f_X10_game_28b
            simp only
            rw [if_neg (by rw [nLt (by omega) (by omega)]; omega), good_c hk hk2 (by omega) w2, bd_e, wins_c hk (by omega), bd_e, if_pos (show inb (nI i) 61 by rw [inb_nI (by omega)]; omega), lt_e, nI_t (by omega), a1]
          · rw [gI_s, if_pos rfl]
            by_cases e : l = i
            · rw [if_pos e, e]
            · rw [if_neg e]; exact w2 l (by omega)
        · obtain ⟨⟨z, rfl, hz⟩, w1, w2⟩ := hI
          have qT : QC S T := by
            refine ⟨fun a b hab => w1.1 a b ?_, fun a b _ => w1.2 a b rfl⟩
            have e1 : a ≠ 121 := by intro e; subst e; cases hab
            simp [e1]
          refine AC.n (S1 := T) ?_ qT (w1.1 10 1 rfl) (fun k => w1.2 11 k rfl)
          unfold f_X10_game_28b
          simp only
          rw [if_pos (by rw [nLt (by omega) (by omega)]; omega), hz (by omega), Nat.add_sub_cancel]
          exact gm_ans hk
      · unfold f_X11_game
        rw [lt_e, in_0_60, if_pos g0, bd_e, if_neg n1z, in_2_9, if_pos g1, bd_e, if_neg n1z]
        have h0 := lp_ex (body := f_X11_game_35b (nI n) (nI k) (fun v16 S17 => (if nI n = 0 then some ((0 : Int32), S17) else if inb ((10 : Int32) * nI n) 610 then lt ((gI S17 153 ((10 : Int32) * nI n).toNatClampNeg) - (gI S17 153 ((10 : Int32) * nI n).toNatClampNeg) / (100 : Int32) * (100 : Int32)) (fun y19 => some (y19, S17)) else none))) (Q := fun w => AM w S1 (nI (gmR k n)) none) (n + 1) (fun i v T => v = nI i ∧ Sm (fun a _ => decide (a ≠ 153)) (fun _ => true) (sI S1 122 0 0) T ∧ ∀ l t, l < i → t < 10 → gI T 153 (10 * l + t) = nI (gmT k i l t)) (fun i kk v T hi hI => ?_) (fun kk v T hI => ?_) FU 0 (0 : Int32) (sI S1 122 0 0) (by omega) (by unfold FU; omega) ⟨rfl, Sm.rf _, fun l t hl => by omega⟩
        · exact h0
        · obtain ⟨rfl, w1, w2⟩ := hI
          obtain ⟨T2, t1, t2, t3⟩ := gr_m hk hk2 (show i ≤ 60 by omega) w2 (nI n) (fun v7 S8 => kk (nI i + (1 : Int32)) S8)
          refine ⟨_, T2, ?_, rfl, w1.tr t2, t3⟩
          unfold f_X11_game_35b
          rw [if_neg (by rw [nLt (by omega) (by omega)]; omega)]
          refine t1.trans ?_
          rw [a1]
        · obtain ⟨rfl, w1, w2⟩ := hI
          have qT : QM (sI S1 122 0 0) T := by
            refine ⟨fun a b hab => w1.1 a b ?_, fun a b _ => w1.2 a b rfl⟩
            have e1 : a ≠ 153 := by intro e; subst e; cases hab
            simp [e1]
          refine AM.n (S1 := T) ?_ ((q00 S1 0).tr qT) (w1.1 122 1 rfl) (fun k => w1.2 123 k rfl)
          unfold f_X11_game_35b
          rw [if_pos (by rw [nLt (by omega) (by omega)]; omega)]
          dsimp only
          have r1 := w2 n 0 (by omega) (by omega)
          rw [Nat.add_zero] at r1
          have tl := gm_le k hk (n + 1) n 0
          by_cases e : n = 0
          · have z : gmR k n = 0 := by
              unfold gmR
              rcases gm_ch k n 0 hk with ⟨h, _⟩ | ⟨h, _⟩ | ⟨_, h, _⟩
              · rw [h]
              · rw [h]
              · have : gmT k (n + 1) n 0 = 0 := by omega
                rw [this]
            rw [if_pos (show nI n = 0 by rw [e]; rfl), z]; rfl
          · rw [if_neg (show ¬ nI n = 0 by rw [lit, nEq (by omega) (by omega)]; exact e), show (10 : Int32) * nI n = nI (10 * n) from nMul 10 n, if_pos (show inb (nI (10 * n)) 610 by rw [inb_nI (by omega)]; omega), nI_t (by omega), r1, show (100 : Int32) = nI 100 from rfl, nRem (by omega) (by omega), lt_e]
            rfl
    · refine ⟨-1, none, (fun l e => by cases e), ?_, fun S1 hM1 q1 => ?_⟩
      · refine AC.n (S1 := S) ?_ (Sm.rf S)
        unfold f_X10_game
        rw [if_neg (show ¬ x < 0 from g0.1), if_neg (show ¬ 60 < x from g0.2)]
        by_cases h1 : y < 2
        · rw [if_pos h1]
        · rw [if_neg h1, if_neg (by
            intro h2
            apply g1
            refine ⟨h1, ?_⟩
            rw [i_lt]; rw [i_le] at h2
            change _ ≤ (nI 9).toInt at h2
            omega)]
      · refine AM.n (S1 := sI S1 122 0 0) ?_ (q00 S1 0)
        unfold f_X11_game
        rw [lt_e, in_0_60, if_pos g0, bd_e, if_neg n1z, in_2_9, if_neg g1, bd_e, if_pos z00]
  · refine ⟨-1, none, (fun l e => by cases e), ?_, fun S1 hM1 q1 => ?_⟩
    · refine AC.n (S1 := S) ?_ (Sm.rf S)
      unfold f_X10_game
      by_cases h1 : x < 0
      · rw [if_pos h1]
      · rw [if_neg h1, if_pos (by
          apply Decidable.byContradiction
          intro h2
          exact g0 ⟨h1, h2⟩)]
    · refine AM.n (S1 := sI S1 122 0 0) ?_ (q00 S1 0)
      unfold f_X11_game
      rw [lt_e, in_0_60, if_neg g0, bd_e, if_pos z00]
