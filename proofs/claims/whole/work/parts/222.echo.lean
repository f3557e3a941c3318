/-! echoes -/
theorem lst_eq {p q : Nat → Bool} {n k : Nat} (h : ∀ i, (i < n ∧ p i = true) ↔ (i < k ∧ q i = true)) : lstF p n = lstF q k := by
  cases e : lstF q k with
  | none =>
    apply lst_no
    intro j hj
    cases g : p j with
    | false => rfl
    | true =>
      have := (h j).mp ⟨hj, g⟩
      rw [lst_none e j this.1] at this; cases this.2
  | some i =>
    obtain ⟨a, b, d⟩ := lst_some e
    obtain ⟨a', b'⟩ := (h i).mpr ⟨a, b⟩
    refine lst_is a' b' (fun j hj => ?_)
    cases g : p j with
    | false => rfl
    | true =>
      have := (h j).mp ⟨by omega, g⟩
      rw [d j hj] at this; cases this.2
/-- the least from t on, one more ahead -/
theorem lst_step {p : Nat → Bool} {t m : Nat} (h1 : 1 ≤ t) (h2 : t ≤ m) : lstF (fun i => decide (t - 1 ≤ i) && p i) m = if p (t - 1) = true then some (t - 1) else lstF (fun i => decide (t ≤ i) && p i) m := by
  by_cases g : p (t - 1) = true
  · rw [if_pos g]
    refine lst_is (by omega) (by simp [g]) (fun j hj => ?_)
    rw [decide_eq_false (by omega)]; rfl
  · rw [if_neg g]
    apply lst_eq
    intro i
    by_cases e : i = t - 1
    · subst e
      simp at g
      simp [g]
    · have : decide (t - 1 ≤ i) = decide (t ≤ i) := by
        by_cases q : t ≤ i
        · rw [decide_eq_true q, decide_eq_true (by omega)]
        · rw [decide_eq_false q, decide_eq_false (by omega)]
      rw [this]
theorem nne {q : Nat} (h : q < 2147483648) : ¬ nI q = (-1 : Int32) := by
  rw [i_eq, nI_int h, show (-1 : Int32).toInt = -1 from by decide]; omega
/-- how many bits below n -/
def bcn (x : Nat) : Nat → Nat
  | 0 => 0
  | n + 1 => bcn x n + (if x.testBit n = true then 1 else 0)
theorem bcn_le (x : Nat) : ∀ n, bcn x n ≤ n
  | 0 => by show 0 ≤ 0; omega
  | n + 1 => by
    have := bcn_le x n
    show bcn x n + (if x.testBit n = true then 1 else 0) ≤ n + 1
    split <;> omega
def clrN (x k : Nat) : Nat := x &&& (2 ^ k ^^^ 4294967295)
theorem clrN_tb {x k i : Nat} (hi : i < 32) : (clrN x k).testBit i = (x.testBit i && !decide (k = i)) := clr_tb hi
theorem clrN_le (x k : Nat) : clrN x k ≤ x := clr_le x k
theorem bcn_off {x k : Nat} : ∀ {n : Nat}, n ≤ 32 → n ≤ k → bcn (clrN x k) n = bcn x n
  | 0, _, _ => rfl
  | n + 1, h1, h2 => by
    show bcn (clrN x k) n + _ = bcn x n + _
    rw [bcn_off (n := n) (by omega) (by omega), clrN_tb (by omega), decide_eq_false (by omega)]; simp
theorem bcn_clr {x k : Nat} (hk : x.testBit k = true) : ∀ {n : Nat}, n ≤ 32 → k < n → bcn (clrN x k) n + 1 = bcn x n
  | 0, _, h => absurd h (by omega)
  | n + 1, h1, h2 => by
    show bcn (clrN x k) n + (if (clrN x k).testBit n = true then 1 else 0) + 1 = bcn x n + (if x.testBit n = true then 1 else 0)
    rw [clrN_tb (by omega)]
    by_cases e : k = n
    · subst e
      rw [bcn_off (by omega) (by omega), hk]; simp
    · have := bcn_clr hk (n := n) (by omega) (by omega)
      rw [decide_eq_false e]; simp; omega
theorem bcn_pos {x k : Nat} (hk : x.testBit k = true) : ∀ {n : Nat}, k < n → 0 < bcn x n
  | 0, h => absurd h (by omega)
  | n + 1, h => by
    show 0 < bcn x n + (if x.testBit n = true then 1 else 0)
    by_cases e : k = n
    · subst e; rw [if_pos hk]; omega
    · have := bcn_pos hk (n := n) (by omega)
      omega
def xN (c : Cv) (q x : Nat) : Nat := if ca c q = x then cb c q else ca c q
def endN (c : Cv) (x q : Nat) : Prop := ca c q = x ∨ cb c q = x
theorem endB_n {c : Cv} (ok : Cok c) {x q : Nat} (hq : q < cm c) (hx : x ≤ 7) : (nI (ca c q) = nI x ∨ nI (cb c q) = nI x) = endN c x q := by
  obtain ⟨k1, k2, _⟩ := ok.2.1 q hq
  rw [nEq (by omega) (by omega), nEq (by omega) (by omega)]; rfl
def nxN (c : Cv) (left x : Nat) : Option Nat := lstF (fun i => left.testBit i && endB c (nI x) i) (cm c)
def nx0 (c : Cv) (st left x : Nat) : Option Nat := if x = st then none else nxN c left x
abbrev Pth : Type := List (Nat × Bool)
def ecN (c : Cv) (st : Nat) : Nat → Nat → Nat → Nat → Pth × Nat
  | 0, _, _, x => ([], x)
  | f + 1, left, k, x => match nx0 c st (clrN left k) (xN c k x) with
    | none => ([(k, decide (cb c k = x))], xN c k x)
    | some k' => ((k, decide (cb c k = x)) :: (ecN c st f (clrN left k) k' (xN c k x)).1, (ecN c st f (clrN left k) k' (xN c k x)).2)
def sumD (c : Cv) (l : Pth) : Nat := (l.map (fun e => cd c e.1)).sum
theorem sumD_ap (c : Cv) (l : Pth) (e : Nat × Bool) : sumD c (l ++ [e]) = sumD c l + cd c e.1 := by
  unfold sumD; rw [List.map_append, List.sum_append]; simp
def flI (b : Bool) : Int32 := if b = true then nI 1 else nI 0
def ECs (c : Cv) (T : St) (l : Pth) (x : Nat) : Prop := gI T 92 3 = nI l.length ∧ gI T 92 4 = nI (sumD c l) ∧ gI T 92 5 = nI x ∧ ∀ i, i < l.length → gI T 93 i = nI (l.getD i (0, false)).1 ∧ gI T 94 i = flI (l.getD i (0, false)).2
def EMs (c : Cv) (T : St) (l : Pth) (x : Nat) : Prop := gI T 122 24 = nI l.length ∧ gI T 122 26 = nI (sumD c l) ∧ gI T 122 25 = nI x ∧ ∀ i, i < l.length → gI T 134 i = nI (l.getD i (0, false)).1 ∧ gI T 135 i = flI (l.getD i (0, false)).2
theorem getP_ap {l : Pth} {v : Nat × Bool} {i : Nat} (h : i < (l ++ [v]).length) : (l ++ [v]).getD i (0, false) = if i = l.length then v else l.getD i (0, false) := by
  rw [List.length_append, List.length_singleton] at h
  by_cases e : i = l.length
  · subst e; rw [if_pos rfl]; simp [List.getD]
  · rw [if_neg e]
    simp only [List.getD]
    rw [List.getElem?_append_left (by omega)]
/-- where the class is with an echo -/
def offE (T T' : St) : Prop := (∀ a b, a ≠ 92 → a ≠ 93 → a ≠ 94 → gI T' a b = gI T a b) ∧ ∀ a b, gL T' a b = gL T a b
def offM (T T' : St) : Prop := (∀ a b, a ≠ 134 → a ≠ 135 → (a ≠ 122 ∨ (b ≠ 24 ∧ b ≠ 25 ∧ b ≠ 26)) → gI T' a b = gI T a b) ∧ ∀ a b, gL T' a b = gL T a b
theorem offE.tr {T T1 T2 : St} (h1 : offE T T1) (h2 : offE T1 T2) : offE T T2 := ⟨fun a b x y z => (h2.1 a b x y z).trans (h1.1 a b x y z), fun a b => (h2.2 a b).trans (h1.2 a b)⟩
theorem offM.tr {T T1 T2 : St} (h1 : offM T T1) (h2 : offM T1 T2) : offM T T2 := ⟨fun a b x y z => (h2.1 a b x y z).trans (h1.1 a b x y z), fun a b => (h2.2 a b).trans (h1.2 a b)⟩
theorem offE.q {T T' : St} (h : offE T T') : QC T T' := by
  refine ⟨fun a b hab => ?_, fun a b _ => h.2 a b⟩
  apply h.1
  · intro e; subst e; cases hab
  · intro e; subst e; cases hab
  · intro e; subst e; cases hab
theorem offM.q {T T' : St} (h : offM T T') : QM T T' := by
  refine ⟨fun a b hab => ?_, fun a b _ => h.2 a b⟩
  apply h.1
  · intro e; subst e; cases hab
  · intro e; subst e; cases hab
  · by_cases e : a = 122
    · subst e
      refine Or.inr ⟨?_, ?_, ?_⟩ <;> (intro e; subst e; cases hab)
    · exact Or.inl e
theorem offM.c {T T' : St} {ar : Nat} {c : Cv} (h : offM T T') (hc : CM T ar c) (h1 : ar ≠ 134) (h2 : ar ≠ 135) (h3 : ar ≠ 122) : CM T' ar c := by
  obtain ⟨c1, c2, c3, c4⟩ := hc
  refine ⟨(h.1 _ _ (by omega) (by omega) (by omega)).trans c1, fun i hi => ?_, (h.1 _ _ h1 h2 (Or.inl h3)).trans c3, (h.1 _ _ h1 h2 (Or.inl h3)).trans c4⟩
  rw [h.1 124 i (by omega) (by omega) (by omega), h.1 125 i (by omega) (by omega) (by omega), h.1 ar i h1 h2 (Or.inl h3), h.1 ar (12 + i) h1 h2 (Or.inl h3), h.1 ar (24 + i) h1 h2 (Or.inl h3)]
  exact c2 i hi
theorem nxt_c {T : St} {c : Cv} (ok : Cok c) (h : CC T c) {left x : Nat} (hl : ∀ i, left.testBit i = true → (co c).testBit i = true) : bd (f_X0_openOf (nI x) T) (fun r11 S12 => f_X2_leastOf (nI left &&& r11) S12) = some (optI (nxN c left x), T) := by
  have h12 := ok12 ok
  rw [openOf_c ok h, bd_e, nAnd]
  have hlt : left &&& (orN (endB c (nI x)) (cm c) &&& co c) < 4096 := by
    have h1 := Nat.and_le_right (n := left) (m := orN (endB c (nI x)) (cm c) &&& co c)
    have h2 := Nat.and_le_right (n := orN (endB c (nI x)) (cm c)) (m := co c)
    have := okO ok
    omega
  rw [least_c T hlt]
  congr 2
  unfold nxN
  congr 1
  apply lst_eq
  intro i
  rw [Nat.testBit_and, Nat.testBit_and, orN_tb]
  constructor
  · rintro ⟨a, b⟩
    simp at b
    exact ⟨b.2.1.1, by simp [b.1, b.2.1.2]⟩
  · rintro ⟨a, b⟩
    simp at b
    exact ⟨by omega, by simp [b.1, b.2, a, hl i b.1]⟩
theorem xN_i {c : Cv} (ok : Cok c) {q x : Nat} (hq : q < cm c) (hx : x ≤ 7) : (if nI (ca c q) = nI x then nI (cb c q) else nI (ca c q)) = nI (xN c q x) := by
  obtain ⟨k1, k2, _⟩ := ok.2.1 q hq
  unfold xN
  by_cases g : ca c q = x
  · rw [if_pos (by rw [g]), if_pos g]
  · rw [if_neg (by rw [nEq (by omega) (by omega)]; exact g), if_neg g]
/-- a step of the class -/
theorem goC_s {T : St} {c : Cv} (ok : Cok c) (h : CC T c) {st left q x : Nat} {l : Pth} (hst : st ≤ 7) (hx : x ≤ 7) (hq : q < cm c) (hE : ECs c T l x) (hl : l.length < 12) (hs : ∀ i, left.testBit i = true → (co c).testBit i = true) (e k : Int32 × Int32 → St → Option (Int32 × St)) : ∃ T', f_X2_goes_65b (nI st) e k (nI left, nI q) T = k (nI (clrN left q), optI (nx0 c st (clrN left q) (xN c q x))) T' ∧ offE T T' ∧ ECs c T' (l ++ [(q, decide (cb c q = x))]) (xN c q x) := by
  have h12 := ok12 ok
  obtain ⟨k1, k2, _⟩ := ok.2.1 q hq
  obtain ⟨e1, e2, e3, _⟩ := h.2.1 q hq
  obtain ⟨g1, g2, g3, g4⟩ := hE
  have hx' : xN c q x ≤ 7 := by unfold xN; split <;> omega
  have hs' : ∀ i, (clrN left q).testBit i = true → (co c).testBit i = true := by
    intro i hi
    apply hs
    unfold clrN at hi
    rw [Nat.testBit_and] at hi
    simp at hi; exact hi.1
  have oE : offE T (sI (sI (sI (sI (sI T 93 l.length (nI q)) 94 l.length (flI (decide (cb c q = x)))) 92 3 (nI (l.length + 1))) 92 4 (nI (sumD c l + cd c q))) 92 5 (nI (xN c q x))) := by
    refine ⟨fun a b n1 n2 n3 => ?_, fun a b => rfl⟩
    rw [gI_s, if_neg n1, gI_s, if_neg n1, gI_s, if_neg n1, gI_s, if_neg n3, gI_s, if_neg n2]
  have hC' := h.q oE.q
  have oE4 : offE T (sI (sI (sI (sI T 93 l.length (nI q)) 94 l.length (flI (decide (cb c q = x)))) 92 3 (nI (l.length + 1))) 92 4 (nI (sumD c l + cd c q))) := by
    refine ⟨fun a b n1 n2 n3 => ?_, fun a b => rfl⟩
    rw [gI_s, if_neg n1, gI_s, if_neg n1, gI_s, if_neg n3, gI_s, if_neg n2]
  have hC4 := h.q oE4.q
  have ac := across_c ok hC4 hq (nI x)
  rw [xN_i ok hq hx] at ac
  have nx := nxt_c ok hC' (left := clrN left q) (x := xN c q x) hs'
  have key : ∀ fl : Int32, fl = flI (decide (cb c q = x)) → f_X2_goes_121 (nI st) (nI left) (nI q) (nI l.length) fl k e (sI T 93 l.length (nI q)) = k (nI (clrN left q), optI (nx0 c st (clrN left q) (xN c q x))) (sI (sI (sI (sI (sI T 93 l.length (nI q)) 94 l.length (flI (decide (cb c q = x)))) 92 3 (nI (l.length + 1))) 92 4 (nI (sumD c l + cd c q))) 92 5 (nI (xN c q x))) := by
    intro fl hfl
    subst hfl
    unfold f_X2_goes_121 f_X2_goes_209
    simp (disch := omega) only [gI_s, Nat.reduceEqDiff, if_true, if_false, g1, g2, g3, e3, lit, nAdd, inb_nI, nI_t, lt_e, hl, show q < 12 by omega, nClr]
    rw [ac, bd_e]
    unfold nx0
    by_cases g : xN c q x = st
    · rw [if_pos g]
      have g' : nI (xN c q x) = nI st := by rw [g]
      simp only [g', if_true]
      rfl
    · rw [if_neg g]
      have g' : ¬ nI (xN c q x) = nI st := by rw [nEq (by omega) (by omega)]; exact g
      simp only [g', if_false]
      rw [openOf_c ok hC', bd_e] at nx ⊢
      rw [show left &&& (2 ^ q ^^^ 4294967295) = clrN left q from rfl, nx, bd_e]
  refine ⟨_, ?_, oE, ?_⟩
  · unfold f_X2_goes_65b
    have b1 : ∀ v, gI (sI T 93 l.length v) 5 q = nI (cb c q) := fun _ => e2
    have b2 : ∀ v, gI (sI T 93 l.length v) 92 5 = nI x := fun _ => g3
    have b3 : ∀ v, gI (sI T 93 l.length v) 92 3 = nI l.length := fun _ => g1
    rw [if_neg (nne (by omega))]
    simp (disch := omega) only [g1, lit, nLe, inb_nI, show ¬ 12 ≤ l.length by omega, hl, if_true, if_false, lt_e, nI_t, show q < 12 by omega, b1, b2, b3]
    by_cases g : cb c q = x
    · have g' : nI (cb c q) = nI x := by rw [g]
      simp only [g', if_true]
      exact key _ (by rw [decide_eq_true g]; rfl)
    · have g' : ¬ nI (cb c q) = nI x := by rw [nEq (by omega) (by omega)]; exact g
      simp only [g', if_false]
      exact key _ (by rw [decide_eq_false g]; rfl)
  · refine ⟨?_, ?_, rfl, fun i hi => ?_⟩
    · rw [List.length_append]; rfl
    · rw [sumD_ap]; rfl
    · rw [getP_ap hi]
      show (if i = l.length then nI q else gI T 93 i) = _ ∧ (if i = l.length then flI (decide (cb c q = x)) else gI T 94 i) = _
      by_cases ei : i = l.length
      · rw [if_pos ei, if_pos ei, if_pos ei]; exact ⟨rfl, rfl⟩
      · rw [if_neg ei, if_neg ei, if_neg ei]
        rw [List.length_append, List.length_singleton] at hi
        exact g4 i (by omega)
/-- the inner loop of the reference: the least one -/
theorem inM {T : St} {c : Cv} {ar : Nat} (ok : Cok c) (h : CM T ar c) {st left x : Nat} (hst : st ≤ 7) (hx : x ≤ 7) (hle : left < 4096) (h25 : gI T 122 25 = nI x) (e : Int32 × Int32 → St → Option (Unit × St)) (he : ∀ a b b' S, e (a, b) S = e (a, b') S) : lp (f_X11_laysEcho_127b ar (nI st) (nI left) e) FU (-1, nI (cm c) - 1) T = e (optI (nx0 c st left x), 0) T := by
  have h12 := ok12 ok
  unfold nx0
  by_cases g : x = st
  · rw [if_pos g]
    have l1 : lp (f_X11_laysEcho_127b ar (nI st) (nI left) e) FU (-1, nI (cm c) - 1) T = f_X11_laysEcho_127b ar (nI st) (nI left) e (lp (f_X11_laysEcho_127b ar (nI st) (nI left) e) 4999) (-1, nI (cm c) - 1) T := rfl
    rw [l1]
    unfold f_X11_laysEcho_127b
    have g' : gI T 122 25 = nI st := by rw [h25, g]
    simp only [g', if_true]
    split
    · exact he _ _ _ _
    · exact he _ _ _ _
  · rw [if_neg g]
    unfold nxN
    have g' : ¬ gI T 122 25 = nI st := by rw [h25, nEq (by omega) (by omega)]; exact g
    have := lp_for (body := f_X11_laysEcho_127b ar (nI st) (nI left) e) (cm c) (fun i => ((optI (lstF (fun j => decide (cm c - i ≤ j) && (left.testBit j && endB c (nI x) j)) (cm c)), nI (cm c - i) - 1), T)) (out := e (optI (lstF (fun j => left.testBit j && endB c (nI x) j) (cm c)), 0) T) (fun i k hi => ?_) (fun k => ?_) FU 0 (by omega) (by unfold FU; omega)
    · rw [lst_no (p := fun j => decide (cm c - 0 ≤ j) && (left.testBit j && endB c (nI x) j)) (fun j hj => by rw [decide_eq_false (by omega)]; rfl)] at this
      exact this
    · unfold f_X11_laysEcho_127b f_X11_laysEcho_168 f_X11_laysEcho_170
      have ej : nI (cm c - i) - 1 = nI (cm c - i - 1) := by rw [lit, nSub (by omega)]
      have st1 := lst_step (p := fun j => left.testBit j && endB c (nI x) j) (t := cm c - i) (m := cm c) (by omega) (by omega)
      have en : nI (cm c - i - 1) + -1 = nI (cm c - (i + 1)) - 1 := by
        rw [show cm c - (i + 1) = cm c - i - 1 by omega]
        rw [Int32.sub_eq_add_neg]
      simp only [ej]
      rw [if_neg (not_neg (by omega)), if_neg g', has_m _ (by omega) (by omega), bd_e]
      simp only [fl3z]
      rw [show cm c - (i + 1) = cm c - i - 1 by omega]
      rw [show cm c - (i + 1) = cm c - i - 1 by omega] at en
      rw [st1, en]
      by_cases q1 : left.testBit (cm c - i - 1) = true
      · rw [if_pos q1, isEnd_m ok h (by omega), bd_e]
        simp only [fl3z]
        rw [h25]
        by_cases q2 : nI (ca c (cm c - i - 1)) = nI x ∨ nI (cb c (cm c - i - 1)) = nI x
        · have : endB c (nI x) (cm c - i - 1) = true := decide_eq_true q2
          rw [if_pos q2, if_pos (by rw [q1, this]; rfl)]; rfl
        · have : endB c (nI x) (cm c - i - 1) = false := decide_eq_false q2
          rw [if_neg q2, if_neg (by rw [this]; simp)]
      · rw [if_neg q1, if_neg (by simp at q1; rw [q1]; simp)]
    · unfold f_X11_laysEcho_127b
      have ej : nI (cm c - cm c) - 1 < (0 : Int32) := by rw [Nat.sub_self]; decide
      simp only [ej, if_true]
      rw [he _ _ 0]
      congr 2
      congr 1
      apply lst_eq
      intro j; simp
