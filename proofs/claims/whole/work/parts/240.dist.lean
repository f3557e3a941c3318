/-! how far caverns are -/
def edg (c : Cv) (o q x y : Nat) : Prop := q < cm c ∧ o.testBit q = true ∧ ((ca c q = x ∧ cb c q = y) ∨ (cb c q = x ∧ ca c q = y))
def Wk (c : Cv) (o x : Nat) : Nat → Nat → Nat → Prop
  | 0, y, n => y = x ∧ n = 0
  | k + 1, y, n => ∃ z n' q, Wk c o x k z n' ∧ edg c o q z y ∧ n = n' + cd c q
def WK (c : Cv) (o x y n : Nat) : Prop := ∃ k, Wk c o x k y n
theorem WK.nil (c : Cv) (o x : Nat) : WK c o x x 0 := ⟨0, rfl, rfl⟩
theorem WK.snoc {c : Cv} {o x z y n q : Nat} (h : WK c o x z n) (e : edg c o q z y) : WK c o x y (n + cd c q) := by
  obtain ⟨k, h⟩ := h
  exact ⟨k + 1, z, n, q, h, e, rfl⟩
theorem WK.app {c : Cv} {o x z y n n' : Nat} (h : WK c o x z n) (h2 : WK c o z y n') : WK c o x y (n + n') := by
  obtain ⟨k, h2⟩ := h2
  revert y n'
  induction k with
  | zero => intro y n' h2; obtain ⟨rfl, rfl⟩ := h2; exact h
  | succ k ih =>
    intro y n' h2
    obtain ⟨w, m, q, h3, h4, rfl⟩ := h2
    rw [← Nat.add_assoc]
    exact (ih h3).snoc h4
theorem WK.lt {c : Cv} (ok : Cok c) {o x y n : Nat} (h : WK c o x y n) (hx : x < 8) : y < 8 := by
  obtain ⟨k, h⟩ := h
  cases k with
  | zero => obtain ⟨rfl, rfl⟩ := h; exact hx
  | succ k =>
    obtain ⟨w, m, q, h3, ⟨h4, h5, h6⟩, rfl⟩ := h
    obtain ⟨k1, k2, _⟩ := ok.2.1 q h4
    omega
def d0 (x y : Nat) : Nat := if x = y then 0 else 1000
def shF (F : Nat → Nat → Nat) (a b m : Nat) : Nat → Nat → Nat := fun x y => if x = a ∧ y = b then min (F x y) m else F x y
def dE (c : Cv) (o : Nat) : Nat → Nat → Nat → Nat
  | 0 => d0
  | q + 1 => if o.testBit q = true then shF (shF (dE c o q) (ca c q) (cb c q) (cd c q)) (cb c q) (ca c q) (cd c q) else dE c o q
def fwS (F : Nat → Nat → Nat) (k : Nat) : Nat → Nat → Nat := fun x y => min (F x y) (F x k + F k y)
def dW (c : Cv) (o : Nat) : Nat → Nat → Nat → Nat
  | 0 => dE c o (cm c)
  | k + 1 => fwS (dW c o k) k
def dN (c : Cv) (o : Nat) : Nat → Nat → Nat := dW c o 8
def Snd (c : Cv) (o : Nat) (F : Nat → Nat → Nat) : Prop := (∀ x y, F x y ≤ 1000 ∧ (F x y < 1000 → WK c o x y (F x y))) ∧ ∀ x, F x x = 0
theorem shF_le (F : Nat → Nat → Nat) (a b m x y : Nat) : shF F a b m x y ≤ F x y := by
  unfold shF; split
  · exact Nat.min_le_left _ _
  · exact Nat.le_refl _
theorem shF_at (F : Nat → Nat → Nat) (a b m : Nat) : shF F a b m a b ≤ m := by
  unfold shF; rw [if_pos ⟨rfl, rfl⟩]; exact Nat.min_le_right _ _
theorem Snd.sh {c : Cv} {o : Nat} {F : Nat → Nat → Nat} (h : Snd c o F) {a b m : Nat} (hw : WK c o a b m) : Snd c o (shF F a b m) := by
  refine ⟨fun x y => ?_, fun x => ?_⟩
  · obtain ⟨h1, h2⟩ := h.1 x y
    refine ⟨Nat.le_trans (shF_le _ _ _ _ _ _) h1, ?_⟩
    unfold shF
    split
    · rename_i g
      obtain ⟨rfl, rfl⟩ := g
      intro hl
      by_cases e : F x y ≤ m
      · rw [Nat.min_eq_left e] at hl ⊢; exact h2 hl
      · rw [Nat.min_eq_right (by omega)]; exact hw
    · exact h2
  · have := shF_le F a b m x x
    rw [h.2 x] at this; omega
theorem Snd.fw {c : Cv} {o : Nat} {F : Nat → Nat → Nat} (h : Snd c o F) (k : Nat) : Snd c o (fwS F k) := by
  refine ⟨fun x y => ?_, fun x => ?_⟩
  · obtain ⟨h1, h2⟩ := h.1 x y
    unfold fwS
    refine ⟨Nat.le_trans (Nat.min_le_left _ _) h1, fun hl => ?_⟩
    by_cases e : F x y ≤ F x k + F k y
    · rw [Nat.min_eq_left e] at hl ⊢; exact h2 hl
    · rw [Nat.min_eq_right (by omega)] at hl ⊢
      exact ((h.1 x k).2 (by omega)).app ((h.1 k y).2 (by omega))
  · unfold fwS; rw [h.2 x]; exact Nat.zero_min _
theorem dE_snd {c : Cv} {o : Nat} : ∀ q, q ≤ cm c → Snd c o (dE c o q) := by
  intro q
  induction q with
  | zero =>
    intro _
    refine ⟨fun x y => ?_, fun x => ?_⟩
    · show d0 x y ≤ 1000 ∧ (d0 x y < 1000 → WK c o x y (d0 x y))
      unfold d0
      by_cases e : x = y
      · rw [if_pos e, e]; exact ⟨by omega, fun _ => WK.nil c o y⟩
      · rw [if_neg e]; exact ⟨by omega, fun h => by omega⟩
    · show d0 x x = 0
      unfold d0; rw [if_pos rfl]
  | succ q ih =>
    intro hq
    have h := ih (by omega)
    rw [dE]
    by_cases g : o.testBit q = true
    · rw [if_pos g]
      have w1 : WK c o (ca c q) (cb c q) (cd c q) := by
        have := (WK.nil c o (ca c q)).snoc (q := q) ⟨by omega, g, Or.inl ⟨rfl, rfl⟩⟩
        rw [Nat.zero_add] at this; exact this
      have w2 : WK c o (cb c q) (ca c q) (cd c q) := by
        have := (WK.nil c o (cb c q)).snoc (q := q) ⟨by omega, g, Or.inr ⟨rfl, rfl⟩⟩
        rw [Nat.zero_add] at this; exact this
      exact (h.sh w1).sh w2
    · rw [if_neg g]; exact h
theorem dW_snd (c : Cv) (o : Nat) : ∀ k, Snd c o (dW c o k) := by
  intro k
  induction k with
  | zero => exact dE_snd (cm c) (Nat.le_refl _)
  | succ k ih => exact ih.fw k
theorem dE_mono (c : Cv) (o x y : Nat) : ∀ d q, dE c o (q + d) x y ≤ dE c o q x y := by
  intro d
  induction d with
  | zero => intro q; exact Nat.le_refl _
  | succ d ih =>
    intro q
    refine Nat.le_trans ?_ (ih q)
    rw [show q + (d + 1) = (q + d) + 1 by omega, dE]
    split
    · exact Nat.le_trans (shF_le _ _ _ _ _ _) (shF_le _ _ _ _ _ _)
    · exact Nat.le_refl _
theorem dW_mono (c : Cv) (o x y : Nat) : ∀ k, dW c o k x y ≤ dE c o (cm c) x y := by
  intro k
  induction k with
  | zero => exact Nat.le_refl _
  | succ k ih => exact Nat.le_trans (Nat.min_le_left _ _) ih
theorem dE_edge {c : Cv} {o q x y : Nat} (h : edg c o q x y) : dE c o (cm c) x y ≤ cd c q := by
  obtain ⟨h1, h2, h3⟩ := h
  have hm := dE_mono c o x y (cm c - (q + 1)) (q + 1)
  rw [show q + 1 + (cm c - (q + 1)) = cm c by omega] at hm
  refine Nat.le_trans hm ?_
  rw [dE, if_pos h2]
  rcases h3 with ⟨rfl, rfl⟩ | ⟨rfl, rfl⟩
  · exact Nat.le_trans (shF_le _ _ _ _ _ _) (shF_at _ _ _ _)
  · exact shF_at _ _ _ _
theorem dW_tri (c : Cv) (o : Nat) : ∀ k j, j < k → ∀ x y, dW c o k x y ≤ dW c o k x j + dW c o k j y := by
  intro k
  induction k with
  | zero => intro j h; omega
  | succ k ih =>
    intro j hj x y
    have z := (dW_snd c o k).2
    show min (dW c o k x y) (dW c o k x k + dW c o k k y) ≤ min (dW c o k x j) (dW c o k x k + dW c o k k j) + min (dW c o k j y) (dW c o k j k + dW c o k k y)
    by_cases e : j = k
    · subst e
      rw [z j]
      omega
    · have t1 := ih j (by omega) x y
      have t2 := ih j (by omega) x k
      have t3 := ih j (by omega) k y
      omega
theorem dN_com {c : Cv} (ok : Cok c) {o x y n : Nat} (hx : x < 8) (h : WK c o x y n) : dN c o x y ≤ n := by
  obtain ⟨k, h⟩ := h
  revert y n
  induction k with
  | zero => intro y n h; obtain ⟨rfl, rfl⟩ := h; rw [show dN c o y y = 0 from (dW_snd c o 8).2 y]; exact Nat.le_refl _
  | succ k ih =>
    intro y n h
    obtain ⟨z, n', q, h1, h2, rfl⟩ := h
    have hz := WK.lt ok ⟨k, h1⟩ hx
    have t := dW_tri c o 8 z hz x y
    have e1 := ih h1
    have e2 := Nat.le_trans (dW_mono c o z y 8) (dE_edge h2)
    show dW c o 8 x y ≤ _
    change dW c o 8 x z ≤ n' at e1
    omega
theorem dN_wk {c : Cv} {o x y : Nat} (h : dN c o x y < 1000) : WK c o x y (dN c o x y) := ((dW_snd c o 8).1 x y).2 h
theorem dN_le (c : Cv) (o x y : Nat) : dN c o x y ≤ 1000 := ((dW_snd c o 8).1 x y).1
theorem dN_0 (c : Cv) (o x : Nat) : dN c o x x = 0 := (dW_snd c o 8).2 x
theorem dN_tri {c : Cv} {o x y z : Nat} (hz : z < 8) : dN c o x y ≤ dN c o x z + dN c o z y := dW_tri c o 8 z hz x y
theorem dN_edge {c : Cv} {o q x y : Nat} (h : edg c o q x y) : dN c o x y ≤ cd c q := Nat.le_trans (dW_mono c o x y 8) (dE_edge h)
/-- the one before -/
theorem dN_pre {c : Cv} (ok : Cok c) {o x y : Nat} (hx : x < 8) (h : dN c o x y < 1000) (h0 : 0 < dN c o x y) : ∃ z q, z < 8 ∧ edg c o q z y ∧ dN c o x z + cd c q = dN c o x y := by
  obtain ⟨k, hk⟩ := dN_wk h
  cases k with
  | zero => obtain ⟨e1, e2⟩ := hk; omega
  | succ k =>
    obtain ⟨z, n', q, h1, h2, h3⟩ := hk
    have hz := WK.lt ok ⟨k, h1⟩ hx
    have e1 := dN_com ok hx ⟨k, h1⟩
    have e2 := dN_edge h2
    have t := dN_tri (c := c) (o := o) (x := x) (y := y) hz
    exact ⟨z, q, hz, h2, by omega⟩
def rkN (c : Cv) (o x y : Nat) : Nat := cntN (fun z => decide (dN c o x z < dN c o x y)) 8
theorem cnt_lt {f g : Nat → Bool} {k : Nat} : ∀ n, (∀ i, i < n → f i = true → g i = true) → k < n → f k = false → g k = true → cntN f n < cntN g n := by
  intro n
  induction n with
  | zero => intro _ h; omega
  | succ n ih =>
    intro h hk h1 h2
    rw [cntN, cntN]
    by_cases e : k = n
    · subst e
      have := cnt_mo (f := f) (g := g) k (fun i hi => h i (by omega))
      rw [if_neg (by rw [h1]; simp), if_pos h2]; omega
    · have := ih (fun i hi => h i (by omega)) (by omega) h1 h2
      have m := h n (by omega)
      by_cases g1 : f n = true
      · rw [if_pos g1, if_pos (m g1)]; omega
      · rw [if_neg g1]; omega
theorem rk_pre {c : Cv} {o x y z : Nat} (hz : z < 8) (h : dN c o x z < dN c o x y) : rkN c o x z < rkN c o x y := by
  refine cnt_lt (k := z) 8 (fun i _ hi => ?_) hz ?_ ?_
  · have := of_decide_eq_true hi
    exact decide_eq_true (by omega)
  · exact decide_eq_false (by omega)
  · exact decide_eq_true h
theorem rk_le {c : Cv} {o x y : Nat} (hy : y < 8) : rkN c o x y ≤ 7 := by
  have : rkN c o x y < cntN (fun _ => true) 8 := cnt_lt (k := y) 8 (fun _ _ _ => rfl) hy (decide_eq_false (by omega)) rfl
  have e : cntN (fun _ => true) 8 = 8 := rfl
  omega
theorem dN_rk {c : Cv} (ok : Cok c) {o x : Nat} (hx : x < 8) : ∀ n y, y < 8 → dN c o x y < 1000 → dN c o x y ≤ n → dN c o x y ≤ 9 * rkN c o x y := by
  intro n
  induction n with
  | zero => intro y _ _ h; omega
  | succ n ih =>
    intro y hy h1 h2
    by_cases h0 : dN c o x y = 0
    · omega
    · obtain ⟨z, q, hz, he, hs⟩ := dN_pre ok hx h1 (by omega)
      obtain ⟨_, _, _, d1, d9, _⟩ := ok.2.1 q he.1
      have := ih z hz (by omega) (by omega)
      have := rk_pre (c := c) (o := o) (x := x) (y := y) hz (by omega)
      omega
theorem dN_63 {c : Cv} (ok : Cok c) {o x y : Nat} (hx : x < 8) (hy : y < 8) (h : dN c o x y < 1000) : dN c o x y ≤ 63 := by
  have := dN_rk ok hx (dN c o x y) y hy h (Nat.le_refl _)
  have := rk_le (c := c) (o := o) (x := x) hy
  omega
theorem dN_fin {c : Cv} (ok : Cok c) {o x y n : Nat} (hx : x < 8) (h : WK c o x y n) : dN c o x y < 1000 := by
  obtain ⟨k, h⟩ := h
  revert y n
  induction k with
  | zero => intro y n h; obtain ⟨rfl, rfl⟩ := h; rw [dN_0]; omega
  | succ k ih =>
    intro y n h
    obtain ⟨z, n', q, h1, h2, rfl⟩ := h
    have hz := WK.lt ok ⟨k, h1⟩ hx
    obtain ⟨_, _, _, d1, d9, _⟩ := ok.2.1 q h2.1
    have e1 := dN_63 ok hx hz (ih h1)
    have e2 := dN_edge h2
    have t := dN_tri (c := c) (o := o) (x := x) (y := y) hz
    omega
/-- what the reference has -/
def dM (c : Cv) (o x y : Nat) : Nat := if dN c o x y < 1000 then dN c o x y else 1000000
/-! the reference's rounds -/
def rlx (c : Cv) (q x : Nat) (F : Nat → Nat → Nat) : Nat → Nat → Nat :=
  let F1 := fun a y => if a = x ∧ y = ca c q then min (F x (ca c q)) (F x (cb c q) + cd c q) else F a y
  fun a y => if a = x ∧ y = cb c q then min (F1 x (cb c q)) (F1 x (ca c q) + cd c q) else F1 a y
def rlC (c : Cv) (q : Nat) (F : Nat → Nat → Nat) : Nat → Nat → Nat → Nat := itN (fun x F => rlx c q x F) F
def rlQ (c : Cv) (o : Nat) (F : Nat → Nat → Nat) : Nat → Nat → Nat → Nat := itN (fun q F => if o.testBit q = true then rlC c q F 8 else F) F
def rlA (c : Cv) (o : Nat) : Nat → Nat → Nat → Nat := itN (fun _ F => rlQ c o F (cm c)) (fun x y => if x = y then 0 else 1000000)
theorem rlx_le (c : Cv) (q x : Nat) (F : Nat → Nat → Nat) (a y : Nat) : rlx c q x F a y ≤ F a y := by
  unfold rlx
  simp only
  by_cases e1 : a = x ∧ y = cb c q
  · obtain ⟨rfl, rfl⟩ := e1
    rw [if_pos ⟨rfl, rfl⟩]
    refine Nat.le_trans (Nat.min_le_left _ _) ?_
    split
    · rename_i g; rw [g.2]; exact Nat.min_le_left _ _
    · exact Nat.le_refl _
  · rw [if_neg e1]
    split
    · rename_i g; rw [g.1, g.2]; exact Nat.min_le_left _ _
    · exact Nat.le_refl _
theorem rlx_ed {c : Cv} (ok : Cok c) {q : Nat} (hq : q < cm c) (x : Nat) (F : Nat → Nat → Nat) : rlx c q x F x (cb c q) ≤ F x (ca c q) + cd c q ∧ rlx c q x F x (ca c q) ≤ F x (cb c q) + cd c q := by
  obtain ⟨_, _, ne, _⟩ := ok.2.1 q hq
  have ne1 : ¬ ca c q = cb c q := ne
  have ne2 : ¬ cb c q = ca c q := fun h => ne h.symm
  unfold rlx
  simp only [true_and, ne1, ne2, if_true, if_false]
  omega
theorem itN_s {α : Type} (f : Nat → α → α) (a : α) (i : Nat) : itN f a (i + 1) = f i (itN f a i) := rfl
theorem rlC_le (c : Cv) (q : Nat) (F : Nat → Nat → Nat) (a y : Nat) : ∀ i, rlC c q F i a y ≤ F a y := by
  intro i
  induction i with
  | zero => exact Nat.le_refl _
  | succ i ih => exact Nat.le_trans (rlx_le c q i _ a y) ih
theorem rlC_ot (c : Cv) (q : Nat) (F : Nat → Nat → Nat) (a y : Nat) : ∀ i, i ≤ a → rlC c q F i a y = F a y := by
  intro i
  induction i with
  | zero => intro _; rfl
  | succ i ih =>
    intro h
    show rlx c q i (rlC c q F i) a y = _
    rw [← ih (by omega)]
    unfold rlx
    simp only
    rw [if_neg (by omega), if_neg (by omega)]
theorem rlC_mo (c : Cv) (q : Nat) (F : Nat → Nat → Nat) (a y i : Nat) : ∀ d, rlC c q F (i + d) a y ≤ rlC c q F i a y := by
  intro d
  induction d with
  | zero => exact Nat.le_refl _
  | succ d ih => exact Nat.le_trans (rlx_le c q (i + d) _ a y) ih
theorem rlC_ed {c : Cv} (ok : Cok c) {q x : Nat} (hq : q < cm c) (hx : x < 8) (F : Nat → Nat → Nat) : rlC c q F 8 x (cb c q) ≤ F x (ca c q) + cd c q ∧ rlC c q F 8 x (ca c q) ≤ F x (cb c q) + cd c q := by
  have h := rlx_ed ok hq x (rlC c q F x)
  rw [rlC_ot c q F x _ x (Nat.le_refl _), rlC_ot c q F x _ x (Nat.le_refl _)] at h
  have m1 := rlC_mo c q F x (cb c q) (x + 1) (8 - (x + 1))
  have m2 := rlC_mo c q F x (ca c q) (x + 1) (8 - (x + 1))
  rw [show x + 1 + (8 - (x + 1)) = 8 by omega] at m1 m2
  exact ⟨Nat.le_trans m1 h.1, Nat.le_trans m2 h.2⟩
theorem rlQ_s (c : Cv) (o : Nat) (F : Nat → Nat → Nat) (q : Nat) : rlQ c o F (q + 1) = if o.testBit q = true then rlC c q (rlQ c o F q) 8 else rlQ c o F q := rfl
theorem rlQ_mo (c : Cv) (o : Nat) (F : Nat → Nat → Nat) (a y i : Nat) : ∀ d, rlQ c o F (i + d) a y ≤ rlQ c o F i a y := by
  intro d
  induction d with
  | zero => exact Nat.le_refl _
  | succ d ih =>
    rw [← Nat.add_assoc, rlQ_s]
    split
    · exact Nat.le_trans (rlC_le _ _ _ _ _ _) ih
    · exact ih
theorem rlQ_ed {c : Cv} (ok : Cok c) {o q x z y : Nat} (he : edg c o q z y) (hx : x < 8) (F : Nat → Nat → Nat) : rlQ c o F (cm c) x y ≤ F x z + cd c q := by
  obtain ⟨h1, h2, h3⟩ := he
  have m := rlQ_mo c o F x y (q + 1) (cm c - (q + 1))
  rw [show q + 1 + (cm c - (q + 1)) = cm c by omega] at m
  refine Nat.le_trans m ?_
  rw [rlQ_s, if_pos h2]
  have h := rlC_ed ok h1 hx (rlQ c o F q)
  have m0 := rlQ_mo c o F x z 0 q
  rw [Nat.zero_add] at m0
  change _ ≤ F x z at m0
  rcases h3 with ⟨rfl, rfl⟩ | ⟨rfl, rfl⟩
  · have := h.1; omega
  · have := h.2; omega
theorem rlA_s (c : Cv) (o i : Nat) : rlA c o (i + 1) = rlQ c o (rlA c o i) (cm c) := rfl
theorem rlA_mo (c : Cv) (o x y i : Nat) : rlA c o (i + 1) x y ≤ rlA c o i x y := by
  rw [rlA_s]
  have := rlQ_mo c o (rlA c o i) x y 0 (cm c)
  rw [Nat.zero_add] at this
  exact this
theorem rlA_rk {c : Cv} (ok : Cok c) {o x : Nat} (hx : x < 8) : ∀ i y, y < 8 → dN c o x y < 1000 → rkN c o x y ≤ i → rlA c o i x y ≤ dN c o x y := by
  intro i
  induction i with
  | zero =>
    intro y hy h hr
    have h0 : dN c o x y = 0 := by
      have := dN_rk ok hx (dN c o x y) y hy h (Nat.le_refl _)
      omega
    obtain ⟨k, hk⟩ := dN_wk h
    have e : y = x := by
      cases k with
      | zero => exact hk.1
      | succ k =>
        obtain ⟨z, n', q, h1, h2, h3⟩ := hk
        obtain ⟨_, _, _, d1, d9, _⟩ := ok.2.1 q h2.1
        omega
    show (if x = y then 0 else 1000000) ≤ _
    rw [if_pos e.symm]; omega
  | succ i ih =>
    intro y hy h hr
    by_cases h0 : dN c o x y = 0
    · refine Nat.le_trans (rlA_mo c o x y i) (ih y hy h ?_)
      have : rkN c o x y = 0 := by
        have e : rkN c o x y ≤ cntN (fun _ => false) 8 := cnt_mo 8 (fun j _ hj => by have := of_decide_eq_true hj; omega)
        have e2 : cntN (fun _ => false) 8 = 0 := rfl
        omega
      omega
    · obtain ⟨z, q, hz, he, hs⟩ := dN_pre ok hx h (by omega)
      obtain ⟨_, _, _, d1, d9, _⟩ := ok.2.1 q he.1
      have rz := rk_pre (c := c) (o := o) (x := x) (y := y) hz (by omega)
      have iz := ih z hz (by omega) (by omega)
      rw [rlA_s]
      have := rlQ_ed ok he hx (rlA c o i)
      omega
/-- the reference's rows are walks -/
def SnM (c : Cv) (o : Nat) (F : Nat → Nat → Nat) : Prop := ∀ x y, F x y ≤ 1000000 ∧ (F x y < 1000000 → WK c o x y (F x y))
theorem SnM.st {c : Cv} {o : Nat} {F : Nat → Nat → Nat} (h : SnM c o F) {q x z y : Nat} (he : edg c o q z y) : SnM c o (fun a b => if a = x ∧ b = y then min (F x y) (F x z + cd c q) else F a b) := by
  intro a b
  simp only
  split
  · rename_i g
    obtain ⟨rfl, rfl⟩ := g
    obtain ⟨h1, h2⟩ := h a b
    refine ⟨Nat.le_trans (Nat.min_le_left _ _) h1, fun hl => ?_⟩
    by_cases e : F a b ≤ F a z + cd c q
    · rw [Nat.min_eq_left e] at hl ⊢; exact h2 hl
    · rw [Nat.min_eq_right (by omega)] at hl ⊢
      exact ((h a z).2 (by omega)).snoc he
  · exact h a b
theorem rlx_sn {c : Cv} {o q : Nat} (hq : q < cm c) (ho : o.testBit q = true) (x : Nat) {F : Nat → Nat → Nat} (h : SnM c o F) : SnM c o (rlx c q x F) := by
  have h1 := h.st (x := x) (q := q) (z := cb c q) (y := ca c q) ⟨hq, ho, Or.inr ⟨rfl, rfl⟩⟩
  exact h1.st (x := x) (q := q) (z := ca c q) (y := cb c q) ⟨hq, ho, Or.inl ⟨rfl, rfl⟩⟩
theorem rlC_sn {c : Cv} {o q : Nat} (hq : q < cm c) (ho : o.testBit q = true) {F : Nat → Nat → Nat} (h : SnM c o F) : ∀ i, SnM c o (rlC c q F i) := by
  intro i
  induction i with
  | zero => exact h
  | succ i ih => exact rlx_sn hq ho i ih
theorem rlQ_sn {c : Cv} {o : Nat} {F : Nat → Nat → Nat} (h : SnM c o F) : ∀ i, i ≤ cm c → SnM c o (rlQ c o F i) := by
  intro i
  induction i with
  | zero => intro _; exact h
  | succ i ih =>
    intro hi
    rw [rlQ_s]
    by_cases g : o.testBit i = true
    · rw [if_pos g]; exact rlC_sn (by omega) g (ih (by omega)) 8
    · rw [if_neg g]; exact ih (by omega)
theorem rlA_sn (c : Cv) (o : Nat) : ∀ i, SnM c o (rlA c o i) := by
  intro i
  induction i with
  | zero =>
    intro x y
    show (if x = y then 0 else 1000000) ≤ 1000000 ∧ ((if x = y then 0 else 1000000) < 1000000 → WK c o x y (if x = y then 0 else 1000000))
    by_cases e : x = y
    · rw [if_pos e, e]; exact ⟨by omega, fun _ => WK.nil c o y⟩
    · rw [if_neg e]; exact ⟨by omega, fun h => by omega⟩
  | succ i ih => rw [rlA_s]; exact rlQ_sn ih (cm c) (Nat.le_refl _)
/-- after eight rounds -/
theorem rlA_8 {c : Cv} (ok : Cok c) {o x y : Nat} (hx : x < 8) (hy : y < 8) : rlA c o 8 x y = dM c o x y := by
  obtain ⟨s1, s2⟩ := rlA_sn c o 8 x y
  unfold dM
  by_cases g : dN c o x y < 1000
  · rw [if_pos g]
    have h1 := rlA_rk ok hx 8 y hy g (by have := rk_le (c := c) (o := o) (x := x) hy; omega)
    have h2 := dN_com ok hx (s2 (by omega))
    omega
  · rw [if_neg g]
    by_cases e : rlA c o 8 x y < 1000000
    · exact absurd (dN_fin ok hx (s2 e)) g
    · omega
