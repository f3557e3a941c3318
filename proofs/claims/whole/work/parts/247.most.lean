/-! most -/
theorem or0 {a b e : Nat} : (a ||| b) &&& e = 0 ↔ a &&& e = 0 ∧ b &&& e = 0 := by
  rw [Nat.and_or_distrib_right]
  constructor
  · intro h
    constructor
    · apply Nat.eq_of_testBit_eq; intro i
      have := congrArg (fun z => Nat.testBit z i) h
      simp only [Nat.testBit_or, Nat.zero_testBit, Bool.or_eq_false_iff] at this
      rw [this.1, Nat.zero_testBit]
    · apply Nat.eq_of_testBit_eq; intro i
      have := congrArg (fun z => Nat.testBit z i) h
      simp only [Nat.testBit_or, Nat.zero_testBit, Bool.or_eq_false_iff] at this
      rw [this.2, Nat.zero_testBit]
  · rintro ⟨h1, h2⟩; rw [h1, h2]; rfl
def vlB (c : Cv) : Nat → Nat → Nat → Bool
  | 0, _, _ => true
  | k + 1, u, s => if s.testBit k = true then (co c).testBit k && (decide (u &&& enN c k = 0) && vlB c k (u ||| enN c k) s) else vlB c k u s
theorem vl_cg {c : Cv} : ∀ k u s t, (∀ i, i < k → s.testBit i = t.testBit i) → vlB c k u s = vlB c k u t := by
  intro k
  induction k with
  | zero => intro u s t _; rfl
  | succ k ih =>
    intro u s t h
    rw [vlB, vlB, h k (by omega), ih u s t (fun i hi => h i (by omega)), ih (u ||| enN c k) s t (fun i hi => h i (by omega))]
theorem vl_i {c : Cv} : ∀ k u s, vlB c k u s = true ↔ (∀ i, i < k → s.testBit i = true → (co c).testBit i = true ∧ u &&& enN c i = 0) ∧ ∀ i j, i < j → j < k → s.testBit i = true → s.testBit j = true → enN c j &&& enN c i = 0 := by
  intro k
  induction k with
  | zero => intro u s; exact ⟨fun _ => ⟨fun i hi => by omega, fun i j h1 h2 => by omega⟩, fun _ => rfl⟩
  | succ k ih =>
    intro u s
    rw [vlB]
    cases g : s.testBit k with
    | false =>
      rw [if_neg (by simp), ih]
      constructor
      · rintro ⟨h1, h2⟩
        refine ⟨fun i hi hs => ?_, fun i j hij hj hs ht => ?_⟩
        · by_cases e : i = k
          · rw [e, g] at hs; cases hs
          · exact h1 i (by omega) hs
        · by_cases e : j = k
          · rw [e, g] at ht; cases ht
          · exact h2 i j hij (by omega) hs ht
      · rintro ⟨h1, h2⟩
        exact ⟨fun i hi hs => h1 i (by omega) hs, fun i j hij hj hs ht => h2 i j hij (by omega) hs ht⟩
    | true =>
      rw [if_pos rfl, Bool.and_eq_true, Bool.and_eq_true, decide_eq_true_eq, ih]
      constructor
      · rintro ⟨h1, h2, h3, h4⟩
        refine ⟨fun i hi hs => ?_, fun i j hij hj hs ht => ?_⟩
        · by_cases e : i = k
          · rw [e]; exact ⟨h1, h2⟩
          · obtain ⟨a, b⟩ := h3 i (by omega) hs
            exact ⟨a, (or0.mp b).1⟩
        · by_cases e : j = k
          · rw [e]; exact (or0.mp (h3 i (by omega) hs).2).2
          · exact h4 i j hij (by omega) hs ht
      · rintro ⟨h1, h2⟩
        refine ⟨(h1 k (by omega) g).1, (h1 k (by omega) g).2, fun i hi hs => ⟨(h1 i (by omega) hs).1, or0.mpr ⟨(h1 i (by omega) hs).2, h2 i k hi (by omega) hs g⟩⟩, fun i j hij hj hs ht => h2 i j hij (by omega) hs ht⟩
def gMs (c : Cv) : Nat → Nat → Nat → Nat → Nat
  | 0, _, t, b => if bcN t ≤ bcN b then b else t
  | k + 1, u, t, b => if (co c).testBit k = true ∧ u &&& enN c k = 0 then gMs c k (u ||| enN c k) (t ||| 2 ^ k) (gMs c k u t b) else gMs c k u t b
theorem itN_add {α : Type} (f : Nat → α → α) (a : α) (n : Nat) : ∀ m, itN f a (n + m) = itN (fun i => f (n + i)) (itN f a n) m := by
  intro m
  induction m with
  | zero => rfl
  | succ m ih => rw [← Nat.add_assoc, itN_s, itN_s, ih]
theorem itN_cg {α : Type} {f g : Nat → α → α} (a : α) : ∀ n, (∀ i b, i < n → f i b = g i b) → itN f a n = itN g a n := by
  intro n
  induction n with
  | zero => intro _; rfl
  | succ n ih => intro h; rw [itN_s, itN_s, ih (fun i b hi => h i b (by omega)), h n _ (by omega)]
theorem itN_id {α : Type} {f : Nat → α → α} (a : α) : ∀ n, (∀ i b, i < n → f i b = b) → itN f a n = a := by
  intro n
  induction n with
  | zero => intro _; rfl
  | succ n ih => intro h; rw [itN_s, h n _ (by omega), ih (fun i b hi => h i b (by omega))]
def msS (v : Nat → Bool) (t s b : Nat) : Nat := if v s = true ∧ bcN b < bcN (t ||| s) then t ||| s else b
theorem gM_it (c : Cv) : ∀ k u t b, gMs c k u t b = itN (msS (vlB c k u) t) b (2 ^ k) := by
  intro k
  induction k with
  | zero =>
    intro u t b
    show _ = msS (vlB c 0 u) t 0 b
    unfold msS
    rw [gMs, Nat.or_zero]
    by_cases h : bcN t ≤ bcN b
    · rw [if_pos h, if_neg (by omega)]
    · rw [if_neg h, if_pos ⟨rfl, by omega⟩]
  | succ k ih =>
    intro u t b
    rw [show 2 ^ (k + 1) = 2 ^ k + 2 ^ k by omega, itN_add]
    have e1 : itN (msS (vlB c (k + 1) u) t) b (2 ^ k) = gMs c k u t b := by
      rw [ih]
      apply itN_cg
      intro s b hs
      unfold msS
      have : vlB c (k + 1) u s = vlB c k u s := by
        rw [vlB, if_neg (by rw [Nat.testBit_lt_two_pow hs]; simp)]
      rw [this]
    rw [e1, gMs]
    by_cases g : (co c).testBit k = true ∧ u &&& enN c k = 0
    · rw [if_pos g, ih]
      apply itN_cg
      intro s b hs
      have e2 : vlB c (k + 1) u (2 ^ k + s) = vlB c k (u ||| enN c k) s := by
        rw [vlB, if_pos (by rw [Nat.testBit_two_pow_add_eq, Nat.testBit_lt_two_pow hs]; rfl), g.1, decide_eq_true g.2, Bool.true_and, Bool.true_and]
        apply vl_cg
        intro i hi
        rw [Nat.testBit_two_pow_add_gt hi]
      have e3 : t ||| (2 ^ k + s) = t ||| 2 ^ k ||| s := by
        have e4 := Nat.two_pow_add_eq_or_of_lt hs 1
        rw [Nat.mul_one] at e4
        rw [e4, Nat.or_assoc]
      unfold msS
      rw [e2, e3]
    · rw [if_neg g]
      apply Eq.symm
      apply itN_id
      intro s b hs
      unfold msS
      have : vlB c (k + 1) u (2 ^ k + s) = false := by
        rw [vlB, if_pos (by rw [Nat.testBit_two_pow_add_eq, Nat.testBit_lt_two_pow hs]; rfl)]
        by_cases g1 : (co c).testBit k = true
        · have g2 : ¬ u &&& enN c k = 0 := fun h => g ⟨g1, h⟩
          rw [decide_eq_false g2]; simp
        · simp only [Bool.not_eq_true] at g1
          rw [g1]; rfl
      rw [if_neg (by rw [this]; simp)]
theorem gM_lt {c : Cv} : ∀ k u t b, t < 4096 → b < 4096 → k ≤ 12 → gMs c k u t b < 4096 := by
  intro k
  induction k with
  | zero => intro u t b h1 h2 _; rw [gMs]; split <;> omega
  | succ k ih =>
    intro u t b h1 h2 hk
    rw [gMs]
    split
    · refine ih _ _ _ ?_ (ih _ _ _ h1 h2 (by omega)) (by omega)
      exact Nat.or_lt_two_pow (n := 12) h1 (Nat.pow_lt_pow_right (by omega) (by omega))
    · exact ih _ _ _ h1 h2 (by omega)
theorem most_c2 {T : St} {c : Cv} (ok : Cok c) (hC : CC T c) : ∀ k n u t b, k ≤ cm c → k < n → u < 256 → t < 4096 → b < 4096 → F_X9_mostApart n (nI k - 1) (nI u) (nI t) (nI b) T = some (nI (gMs c k u t b), T) := by
  have h12 := ok12 ok
  intro k
  induction k with
  | zero =>
    intro n u t b _ hn hu ht hb
    obtain ⟨n', rfl⟩ : ∃ n', n = n' + 1 := ⟨n - 1, by omega⟩
    show f_X9_mostApart (F_X9_mostApart n') _ _ _ _ T = _
    unfold f_X9_mostApart f_X9_mostApart_10
    have l1 := bcN_le t
    have l2 := bcN_le b
    rw [if_pos (show nI 0 - 1 < 0 by decide), bc_e, bd_e, bc_e, bd_e, bC_c ht, bC_c hb, gMs]
    show (if nI (bcN t) ≤ nI (bcN b) then _ else _) = _
    by_cases h : bcN t ≤ bcN b
    · rw [if_pos (by rw [nLe (by omega) (by omega)]; exact h), if_pos h]
    · rw [if_neg (by rw [nLe (by omega) (by omega)]; exact h), if_neg h]
  | succ k ih =>
    intro n u t b hk hn hu ht hb
    obtain ⟨n', rfl⟩ : ∃ n', n = n' + 1 := ⟨n - 1, by omega⟩
    show f_X9_mostApart (F_X9_mostApart n') _ _ _ _ T = _
    have e1 := ih n' u t b (by omega) (by omega) hu ht hb
    have b1 := gM_lt (c := c) k u t b ht hb (by omega)
    have en := en_lt ok (show k < cm c by omega)
    have hl := Nat.and_le_left (n := u) (m := enN c k)
    unfold f_X9_mostApart
    rw [show nI (k + 1) - 1 = nI k by rw [m1 (by omega)]; rfl, if_neg (not_neg (by omega)), if_pos (show nI k < 12 by rw [lit, nLt (by omega) (by omega)]; omega), e1, bd_e, endsOf_c ok hC (by omega), bd_e, isOpen_c ok hC (by omega), bd_e]
    simp only [fl3z]
    rw [gMs]
    by_cases g1 : (co c).testBit k = true
    · rw [if_pos g1, show nI u &&& nI (2 ^ ca c k ||| 2 ^ cb c k) = nI (u &&& enN c k) from nAnd _ _]
      by_cases g2 : u &&& enN c k = 0
      · rw [if_pos (show nI (u &&& enN c k) = 0 by rw [g2]; rfl), if_pos ⟨g1, g2⟩, show nI u ||| nI (2 ^ ca c k ||| 2 ^ cb c k) = nI (u ||| enN c k) from nOr _ _, show (1 : Int32) <<< (nI k &&& 31) = nI (2 ^ k) from nShl (by omega), nOr]
        rw [ih n' (u ||| enN c k) (t ||| 2 ^ k) (gMs c k u t b) (by omega) (by omega) (Nat.or_lt_two_pow (n := 8) hu en) (Nat.or_lt_two_pow (n := 12) ht (Nat.pow_lt_pow_right (by omega) (by omega))) b1, bd_e]
      · rw [if_neg (show ¬ nI (u &&& enN c k) = 0 by rw [lit, nEq (by omega) (by omega)]; exact g2), if_neg (fun h => g2 h.2)]
    · rw [if_neg g1, if_neg (fun h => g1 h.1)]
/-! the reference -/
def bnN (c : Cv) (s : Nat) : Nat → Nat
  | 0 => 0
  | k + 1 => if s.testBit k = true then bnN c s k ||| enN c k else bnN c s k
def okN (c : Cv) (s : Nat) (k : Nat) : Bool := alN (fun k => !s.testBit k || decide (bnN c s k &&& enN c k = 0)) k
theorem bn_0 {c : Cv} {s e : Nat} : ∀ k, bnN c s k &&& e = 0 ↔ ∀ i, i < k → s.testBit i = true → enN c i &&& e = 0 := by
  intro k
  induction k with
  | zero => exact ⟨fun _ i hi => by omega, fun _ => Nat.zero_and e⟩
  | succ k ih =>
    rw [bnN]
    cases g : s.testBit k with
    | false =>
      rw [if_neg (by simp), ih]
      constructor
      · intro h i hi hs
        by_cases e : i = k
        · rw [e, g] at hs; cases hs
        · exact h i (by omega) hs
      · intro h i hi hs; exact h i (by omega) hs
    | true =>
      rw [if_pos rfl, or0, ih]
      constructor
      · rintro ⟨h1, h2⟩ i hi hs
        by_cases e : i = k
        · rw [e]; exact h2
        · exact h1 i (by omega) hs
      · intro h
        exact ⟨fun i hi hs => h i (by omega) hs, h k (by omega) g⟩
theorem bn_lt {c : Cv} (ok : Cok c) (s : Nat) : ∀ k, k ≤ cm c → bnN c s k < 256 := by
  intro k
  induction k with
  | zero => intro _; show 0 < 256; omega
  | succ k ih =>
    intro hk
    rw [bnN]
    split
    · exact Nat.or_lt_two_pow (n := 8) (ih (by omega)) (en_lt ok (by omega))
    · exact ih (by omega)
theorem sub0 {s o m : Nat} (hs : s < 2 ^ m) (hm : m ≤ 12) : s &&& (o ^^^ 4294967295) = 0 ↔ ∀ i, i < m → s.testBit i = true → o.testBit i = true := by
  have tb : ∀ i, (s &&& (o ^^^ 4294967295)).testBit i = (s.testBit i && (o.testBit i ^^ decide (i < 32))) := fun i => by
    rw [Nat.testBit_and, Nat.testBit_xor, show (4294967295 : Nat) = 2 ^ 32 - 1 from rfl, Nat.testBit_two_pow_sub_one]
  constructor
  · intro h i hi hsi
    have := tb i
    rw [h, Nat.zero_testBit, hsi, decide_eq_true (show i < 32 by omega)] at this
    cases g : o.testBit i with
    | true => rfl
    | false => rw [g] at this; cases this
  · intro h
    apply Nat.eq_of_testBit_eq
    intro i
    rw [tb, Nat.zero_testBit]
    by_cases hi : i < m
    · cases g : s.testBit i with
      | false => rfl
      | true => rw [h i hi g, decide_eq_true (show i < 32 by omega)]; rfl
    · have : s.testBit i = false := Nat.testBit_lt_two_pow (Nat.lt_of_lt_of_le hs (Nat.pow_le_pow_right (by omega) (by omega)))
      rw [this]; rfl
def mtB (c : Cv) (s : Nat) : Bool := decide (s &&& (co c ^^^ 4294967295) = 0) && okN c s (cm c)
theorem mt_vl {c : Cv} (ok : Cok c) {s : Nat} (hs : s < 2 ^ cm c) : vlB c (cm c) 0 s = mtB c s := by
  have h12 := ok12 ok
  have key : vlB c (cm c) 0 s = true ↔ mtB c s = true := by
    unfold mtB okN
    rw [vl_i, Bool.and_eq_true, decide_eq_true_eq, sub0 hs h12, al_i]
    constructor
    · rintro ⟨h1, h2⟩
      refine ⟨fun i hi hsi => (h1 i hi hsi).1, fun k hk => ?_⟩
      cases g : s.testBit k with
      | false => rfl
      | true =>
        have : bnN c s k &&& enN c k = 0 := (bn_0 k).mpr (fun i hi hsi => by
          rw [Nat.and_comm]; exact h2 i k hi hk hsi g)
        rw [decide_eq_true this]; rfl
    · rintro ⟨h1, h2⟩
      refine ⟨fun i hi hsi => ⟨h1 i hi hsi, Nat.zero_and _⟩, fun i j hij hj hsi hsj => ?_⟩
      have := h2 j hj
      rw [hsj] at this
      simp at this
      rw [Nat.and_comm]; exact (bn_0 j).mp this i hij hsi
  cases g : mtB c s with
  | true => exact key.mpr g
  | false =>
    cases h : vlB c (cm c) 0 s with
    | false => rfl
    | true => rw [key.mp h] at g; cases g
theorem moi_m {T : St} {c : Cv} (ok : Cok c) (hC : CM T 126 c) {s : Nat} (hs : s < 4096) (x1 : Int32) (e : Int32 × Int32 × Int32 → St → Option (Int32 × St)) : lp (f_X11_most_53b x1 (nI s) e) FU (1, 0, 0) T = e (flI (okN c s (cm c)), nI (bnN c s (cm c)), nI (cm c)) T := by
  have h12 := ok12 ok
  refine lp_for (body := f_X11_most_53b x1 (nI s) e) (cm c) (fun k => ((flI (okN c s k), nI (bnN c s k), nI k), T)) (out := e (flI (okN c s (cm c)), nI (bnN c s (cm c)), nI (cm c)) T) (fun k kk hk => ?_) (fun kk => ?_) FU 0 (by omega) (by unfold FU; omega)
  · obtain ⟨k1, k2, _⟩ := ok.2.1 k hk
    obtain ⟨e1, e2, _⟩ := hC.2.1 k hk
    have bl := bn_lt ok s k (by omega)
    have hl := Nat.and_le_left (n := bnN c s k) (m := enN c k)
    have w : inb (nI k) 12 := by rw [inb_nI (by omega)]; omega
    have eo : okN c s (k + 1) = (okN c s k && (!s.testBit k || decide (bnN c s k &&& enN c k = 0))) := rfl
    rw [eo, bnN]
    generalize okN c s k = B
    unfold f_X11_most_53b f_X11_most_94 f_X11_most_112 f_X11_most_113
    simp only
    rw [hC.1, if_neg (by rw [nLe (by omega) (by omega)]; omega), has_m T (by omega) (by omega), bd_e]
    simp only [fl3z, if_pos w, nI_t (show k < 2147483648 by omega), e1, e2, lt_e]
    cases g : s.testBit k with
    | false =>
      rw [if_neg (by simp)]
      cases B with
      | false => rw [if_pos (show flI false = 0 from rfl), if_neg (by simp), a1, Int32.or_zero]; rfl
      | true => rw [if_neg (show ¬ flI true = 0 by decide), if_pos (show nI (bnN c s k) &&& 0 = 0 from Int32.and_zero), if_neg (by simp), a1, Int32.or_zero]; rfl
    | true =>
      rw [if_pos rfl, if_pos rfl, show (1 : Int32) <<< (nI (ca c k) &&& 31) = nI (2 ^ ca c k) from nShl (by omega), show (1 : Int32) <<< (nI (cb c k) &&& 31) = nI (2 ^ cb c k) from nShl (by omega), nOr, nAnd, nOr, a1]
      show (if flI B = 0 then kk (0, nI (bnN c s k ||| enN c k), nI (k + 1)) T else (if nI (bnN c s k &&& enN c k) = 0 then kk (1, nI (bnN c s k ||| enN c k), nI (k + 1)) T else kk (0, nI (bnN c s k ||| enN c k), nI (k + 1)) T)) = _
      cases B with
      | false => rw [if_pos (show flI false = 0 from rfl)]; rfl
      | true =>
        rw [if_neg (show ¬ flI true = 0 by decide)]
        by_cases g2 : bnN c s k &&& enN c k = 0
        · rw [if_pos (show nI (bnN c s k &&& enN c k) = 0 by rw [g2]; rfl), decide_eq_true g2]; rfl
        · rw [if_neg (show ¬ nI (bnN c s k &&& enN c k) = 0 by rw [lit, nEq (by omega) (by omega)]; exact g2), decide_eq_false g2]; rfl
  · unfold f_X11_most_53b
    simp only
    rw [hC.1, if_pos (by rw [nLe (by omega) (by omega)]; omega)]
def moA (c : Cv) : Nat → Nat := itN (fun i b => msS (mtB c) 0 (i + 1) b) 0
theorem moA_s (c : Cv) (i : Nat) : moA c (i + 1) = msS (mtB c) 0 (i + 1) (moA c i) := rfl
theorem mo_le (c : Cv) : ∀ i, moA c i ≤ i := by
  intro i
  induction i with
  | zero => exact Nat.le_refl _
  | succ i ih =>
    rw [moA_s, msS]
    split
    · rw [Nat.zero_or]; exact Nat.le_refl _
    · omega
theorem mo_eq {c : Cv} (ok : Cok c) : gMs c (cm c) 0 0 0 = moA c (co c) := by
  have hO := ok.2.2
  rw [gM_it, show 2 ^ cm c = 1 + (co c + (2 ^ cm c - 1 - co c)) by omega, itN_add, itN_add]
  have e0 : itN (msS (vlB c (cm c) 0) 0) 0 1 = 0 := by
    show msS (vlB c (cm c) 0) 0 0 0 = 0
    unfold msS
    rw [if_neg (fun h => by have := h.2; rw [Nat.zero_or] at this; omega)]
  rw [e0]
  have e1 : itN (fun i => msS (vlB c (cm c) 0) 0 (1 + i)) 0 (co c) = moA c (co c) := by
    apply itN_cg
    intro i b hi
    unfold msS
    rw [Nat.add_comm 1 i, mt_vl ok (by omega)]
  rw [e1]
  apply itN_id
  intro i b hi
  unfold msS
  have hf : vlB c (cm c) 0 (1 + (co c + i)) = false := by
    rw [mt_vl ok (by omega)]
    unfold mtB
    rw [decide_eq_false, Bool.false_and]
    intro h
    have h2 := (sub0 (show 1 + (co c + i) < 2 ^ cm c by omega) (ok12 ok)).mp h
    -- what lies in the open ones is no more than they
    have : 1 + (co c + i) ≤ co c := by
      have e : (1 + (co c + i)) &&& co c = 1 + (co c + i) := by
        apply Nat.eq_of_testBit_eq
        intro j
        rw [Nat.testBit_and]
        cases g : (1 + (co c + i)).testBit j with
        | false => rfl
        | true =>
          have hj : j < cm c := by
            apply Decidable.byContradiction
            intro hj
            have : (1 + (co c + i)).testBit j = false := Nat.testBit_lt_two_pow (Nat.lt_of_lt_of_le (show 1 + (co c + i) < 2 ^ cm c by omega) (Nat.pow_le_pow_right (by omega) (by omega)))
            rw [g] at this; cases this
          rw [h2 j hj g]; rfl
      have := Nat.and_le_right (n := 1 + (co c + i)) (m := co c)
      omega
    omega
  rw [if_neg (by rw [hf]; simp)]
theorem eq_most : EQ1 RelP f_X10_most f_X11_most := by
  apply qr
  intro S c o r hS ok hC hM
  have h12 := ok12 ok
  have hO := okO ok
  generalize hB : gMs c (cm c) 0 0 0 = B
  have hB2 : moA c (co c) = B := by rw [← mo_eq ok, hB]
  have hBl : B < 4096 := by rw [← hB]; exact gM_lt (cm c) 0 0 0 (by omega) (by omega) h12
  refine ⟨bC (nI B), some [(nI B).toInt64], (fun l e => by cases e; simp), ?_, fun S1 hM1 q1 => ?_⟩
  · obtain ⟨T2, s1, s2, s3, s4⟩ := put_e (nI B).toInt64 (RwC.nil S) (by simp)
    refine AC.y (S1 := T2) ?_ ((q10 S 0).tr s2) s3
    unfold f_X10_most
    rw [hC.1.1, show F_X9_mostApart 100 (nI (cm c) - 1) 0 0 0 S = _ from most_c2 ok hC.1 (cm c) 100 0 0 0 (Nat.le_refl _) (by omega) (by omega) (by omega) (by omega), bd_e, hB, begin_e, bd_e, s1, bd_e, bc_e, bd_e]
  · obtain ⟨T2, s1, s2, s3, s4⟩ := ent_e (nI B).toInt64 (RwM.nil (sI S1 122 0 0)) (by simp)
    refine AM.y (S1 := T2) ?_ (((q00 S1 0).tr (q01 _ 0)).tr s2) s3
    have hM0 := (hM1.q (q00 S1 0)).1
    unfold f_X11_most
    rw [lt_e]
    refine lp_for (body := f_X11_most_9b (fun v17 S18 => lt (sI S18 122 1 (0 : Int32)) (fun S19 => bd (f_X11_enters v17.1.toInt64 S19) (fun r20 S21 => bd (f_J6_bitCount_0f7a4 v17.1 S21) (fun r23 S24 => some (r23, S24)))))) (co c) (fun i => ((nI (moA c i), nI (i + 1)), sI S1 122 0 0)) (out := some (bC (nI B), T2)) (fun i k hi => ?_) (fun k => ?_) FU 0 (by omega) (by unfold FU; omega)
    · have hl := mo_le c i
      have ha := Nat.and_le_left (n := i + 1) (m := co c ^^^ 4294967295)
      rw [moA_s]
      generalize moA c i = b at hl
      have l1 := bcN_le (i + 1)
      have l2 := bcN_le b
      unfold f_X11_most_9b f_X11_most_136 f_X11_most_137 msS mtB
      simp only
      rw [hM0.2.2.1, if_neg (by rw [nLt (by omega) (by omega)]; omega), show (-1 : Int32) = nI 4294967295 by decide, nXor, nAnd, Nat.zero_or]
      by_cases g1 : (i + 1) &&& (co c ^^^ 4294967295) = 0
      · rw [if_pos (show nI ((i + 1) &&& (co c ^^^ 4294967295)) = 0 by rw [g1]; rfl), bc_e, bd_e, bc_e, bd_e, bC_c (by omega), bC_c (by omega), decide_eq_true g1, Bool.true_and]
        show (if nI (bcN (i + 1)) ≤ nI (bcN b) then _ else _) = _
        by_cases g2 : bcN (i + 1) ≤ bcN b
        · rw [if_pos (by rw [nLe (by omega) (by omega)]; exact g2), if_neg (fun h => by omega), a1]
        · rw [if_neg (by rw [nLe (by omega) (by omega)]; exact g2)]
          refine (moi_m ok hM0 (by omega) _ _).trans ?_
          simp only
          cases g3 : okN c (i + 1) (cm c) with
          | false => rw [if_pos (show flI false = 0 from rfl), if_neg (fun h => by cases h.1), a1]
          | true => rw [if_neg (show ¬ flI true = 0 by decide), if_pos ⟨rfl, by omega⟩, a1]
      · rw [if_neg (show ¬ nI ((i + 1) &&& (co c ^^^ 4294967295)) = 0 by rw [lit, nEq (by omega) (by omega)]; exact g1), decide_eq_false g1, Bool.false_and, if_neg (fun h => by cases h.1), a1]
    · unfold f_X11_most_9b
      rw [hM0.2.2.1, if_pos (show nI (co c) < nI (co c + 1) by rw [nLt (by omega) (by omega)]; omega)]
      dsimp only
      rw [hB2, lt_e, s1, bd_e, bc_e, bd_e]
