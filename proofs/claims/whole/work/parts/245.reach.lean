/-! reached -/
def enN (c : Cv) (q : Nat) : Nat := 2 ^ ca c q ||| 2 ^ cb c q
theorem en_tb (c : Cv) (q i : Nat) : (enN c q).testBit i = (decide (ca c q = i) || decide (cb c q = i)) := by
  unfold enN
  rw [Nat.testBit_or, Nat.testBit_two_pow, Nat.testBit_two_pow]
theorem en_lt {c : Cv} (ok : Cok c) {q : Nat} (hq : q < cm c) : enN c q < 256 := by
  obtain ⟨k1, k2, _⟩ := ok.2.1 q hq
  have p1 := pow7 k1
  have p2 := pow7 k2
  exact Nat.or_lt_two_pow (n := 8) (by omega) (by omega)
def rcQ (c : Cv) (o q b : Nat) : Nat := if o.testBit q = true ∧ ¬ b &&& enN c q = 0 then b ||| enN c q else b
def rcS (c : Cv) (o b : Nat) : Nat → Nat := itN (rcQ c o) b
def rcA (c : Cv) (o x : Nat) : Nat → Nat := itN (fun _ b => rcS c o b (cm c)) (2 ^ x)
theorem rcS_s (c : Cv) (o b q : Nat) : rcS c o b (q + 1) = rcQ c o q (rcS c o b q) := rfl
theorem rcA_s (c : Cv) (o x i : Nat) : rcA c o x (i + 1) = rcS c o (rcA c o x i) (cm c) := rfl
theorem rcQ_mo {c : Cv} {o q b i : Nat} (h : b.testBit i = true) : (rcQ c o q b).testBit i = true := by
  unfold rcQ
  split
  · rw [Nat.testBit_or, h]; rfl
  · exact h
theorem rcS_mo {c : Cv} {o b i : Nat} (h : b.testBit i = true) : ∀ q, (rcS c o b q).testBit i = true := by
  intro q
  induction q with
  | zero => exact h
  | succ q ih => exact rcQ_mo ih
theorem rcS_mo2 {c : Cv} {o b i q : Nat} (h : (rcS c o b q).testBit i = true) : ∀ d, (rcS c o b (q + d)).testBit i = true := by
  intro d
  induction d with
  | zero => exact h
  | succ d ih => exact rcQ_mo ih
theorem rcQ_sn {c : Cv} {o x q b : Nat} (hq : q < cm c) (h : ∀ i, b.testBit i = true → ∃ n, WK c o x i n) : ∀ i, (rcQ c o q b).testBit i = true → ∃ n, WK c o x i n := by
  intro i hi
  unfold rcQ at hi
  by_cases g : o.testBit q = true ∧ ¬ b &&& enN c q = 0
  · rw [if_pos g, Nat.testBit_or, en_tb] at hi
    by_cases hb : b.testBit i = true
    · exact h i hb
    · simp only [Bool.not_eq_true] at hb
      rw [hb] at hi
      simp at hi
      have hn : ¬ (b.testBit (ca c q) = false ∧ b.testBit (cb c q) = false) := fun z => g.2 (ends0.mpr z)
      have e1 : edg c o q (ca c q) (cb c q) := ⟨hq, g.1, Or.inl ⟨rfl, rfl⟩⟩
      cases z1 : b.testBit (ca c q) with
      | true =>
        obtain ⟨n, w⟩ := h _ z1
        rcases hi with rfl | rfl
        · exact ⟨n, w⟩
        · exact ⟨_, w.snoc e1⟩
      | false =>
        cases z2 : b.testBit (cb c q) with
        | true =>
          obtain ⟨n, w⟩ := h _ z2
          rcases hi with rfl | rfl
          · exact ⟨_, w.snoc e1.rev⟩
          · exact ⟨n, w⟩
        | false => exact absurd ⟨z1, z2⟩ hn
  · rw [if_neg g] at hi; exact h i hi
theorem rcS_sn {c : Cv} {o x b : Nat} (h : ∀ i, b.testBit i = true → ∃ n, WK c o x i n) : ∀ q, q ≤ cm c → ∀ i, (rcS c o b q).testBit i = true → ∃ n, WK c o x i n := by
  intro q
  induction q with
  | zero => intro _; exact h
  | succ q ih => intro hq; rw [rcS_s]; exact rcQ_sn (by omega) (ih (by omega))
theorem rcA_sn (c : Cv) (o x : Nat) : ∀ k i, (rcA c o x k).testBit i = true → ∃ n, WK c o x i n := by
  intro k
  induction k with
  | zero =>
    intro i h
    change (2 ^ x).testBit i = true at h
    rw [Nat.testBit_two_pow] at h
    have := of_decide_eq_true h
    subst this
    exact ⟨0, WK.nil c o x⟩
  | succ k ih => rw [rcA_s]; exact rcS_sn ih (cm c) (Nat.le_refl _)
theorem rcS_ed {c : Cv} {o b q z y : Nat} (he : edg c o q z y) (h : b.testBit z = true) : (rcS c o b (cm c)).testBit y = true := by
  obtain ⟨h1, h2, h3⟩ := he
  have hz := rcS_mo (c := c) (o := o) h q
  have : (rcS c o b (q + 1)).testBit y = true := by
    rw [rcS_s]
    unfold rcQ
    have g : ¬ rcS c o b q &&& enN c q = 0 := by
      intro e
      have := ends0.mp e
      rcases h3 with ⟨rfl, _⟩ | ⟨rfl, _⟩
      · rw [this.1] at hz; cases hz
      · rw [this.2] at hz; cases hz
    rw [if_pos ⟨h2, g⟩, Nat.testBit_or, en_tb]
    rcases h3 with ⟨_, rfl⟩ | ⟨_, rfl⟩ <;> simp
  have := rcS_mo2 this (cm c - (q + 1))
  rw [show q + 1 + (cm c - (q + 1)) = cm c by omega] at this
  exact this
theorem rcA_rk {c : Cv} (ok : Cok c) {o x : Nat} (hx : x < 8) : ∀ i y, y < 8 → dN c o x y < 1000 → rkN c o x y ≤ i → (rcA c o x i).testBit y = true := by
  intro i
  induction i with
  | zero =>
    intro y hy h hr
    have h0 : dN c o x y = 0 := by
      have := dN_rk ok hx (dN c o x y) y hy h (Nat.le_refl _)
      omega
    have e := dN_e0 ok h0
    show (2 ^ x).testBit y = true
    rw [Nat.testBit_two_pow]; exact decide_eq_true e
  | succ i ih =>
    intro y hy h hr
    rw [rcA_s]
    by_cases h0 : dN c o x y = 0
    · have e := dN_e0 ok h0
      apply rcS_mo
      apply ih y hy h
      have : rkN c o x y = 0 := by
        have e : rkN c o x y ≤ cntN (fun _ => false) 8 := cnt_mo 8 (fun j _ hj => by have := of_decide_eq_true hj; omega)
        have e2 : cntN (fun _ => false) 8 = 0 := rfl
        omega
      omega
    · obtain ⟨z, q, hz, he, hs⟩ := dN_pre ok hx h (by omega)
      obtain ⟨_, _, _, d1, d9, _⟩ := ok.2.1 q he.1
      have rz := rk_pre (c := c) (o := o) (x := x) (y := y) hz (by omega)
      exact rcS_ed he (ih z hz (by omega) (by omega))
theorem rcA_8 {c : Cv} (ok : Cok c) {o x : Nat} (hx : x < 8) : rcA c o x 8 = jnN c o x := by
  apply Nat.eq_of_testBit_eq
  intro i
  unfold jnN
  rw [orN_tb]
  cases g : (rcA c o x 8).testBit i with
  | true =>
    obtain ⟨n, w⟩ := rcA_sn c o x 8 i g
    have hi := w.lt ok hx
    rw [decide_eq_true hi, show jnB c o x i = true from decide_eq_true (dN_fin ok hx w)]; rfl
  | false =>
    by_cases hi : i < 8
    · cases j : jnB c o x i with
      | false => simp
      | true =>
        have := rcA_rk ok hx 8 i hi (of_decide_eq_true j) (by have := rk_le (c := c) (o := o) (x := x) hi; omega)
        rw [g] at this; cases this
    · rw [decide_eq_false hi]; rfl
theorem rcA_lt {c : Cv} (ok : Cok c) {o x : Nat} (hx : x < 8) (i : Nat) : rcA c o x i < 256 := by
  apply Nat.lt_pow_two_of_testBit (n := 8)
  intro j hj
  cases g : (rcA c o x i).testBit j with
  | false => rfl
  | true =>
    obtain ⟨n, w⟩ := rcA_sn c o x i j g
    have := w.lt ok hx
    omega
theorem rc_st {c : Cv} {o x j : Nat} (h : rcA c o x (j + 1) = rcA c o x j) : ∀ d, rcA c o x (j + d) = rcA c o x j := by
  intro d
  induction d with
  | zero => rfl
  | succ d ih => rw [← Nat.add_assoc, rcA_s, ih, ← rcA_s, h]
theorem sweep_c {T : St} {c : Cv} (ok : Cok c) (hC : CC T c) {o b : Nat} (ho : o < 4096) (hb : ∀ q, q ≤ cm c → rcS c o b q < 256) (x4 x5 : Int32) (e : Int32 × Int32 → St → Option (Int32 × St)) : lp (f_X9_reached_29b (nI o) x4 x5 e) FU (nI b, 0) T = e (nI (rcS c o b (cm c)), nI (cm c)) T := by
  have h12 := ok12 ok
  refine lp_for (body := f_X9_reached_29b (nI o) x4 x5 e) (cm c) (fun q => ((nI (rcS c o b q), nI q), T)) (out := e (nI (rcS c o b (cm c)), nI (cm c)) T) (fun q k hq => ?_) (fun k => ?_) FU 0 (by omega) (by unfold FU; omega)
  · have b1 := hb q (by omega)
    rw [rcS_s]
    generalize rcS c o b q = B at b1
    have hl := Nat.and_le_left (n := B) (m := enN c q)
    unfold f_X9_reached_29b f_X9_reached_77 rcQ
    simp only
    rw [hC.1, if_neg (by rw [nLe (by omega) (by omega)]; omega), show (31 : Int32) = nI 31 from rfl, show (1 : Int32) = nI 1 from rfl, endsOf_c ok hC hq]
    simp only [hasN (show o < 2147483648 by omega) (show q < 32 by omega), bd_e, endsOf_c ok hC hq, lt_e]
    show (if o.testBit q = true then (if nI B &&& nI (enN c q) = 0 then k (nI B, nI q + nI 1) T else k (nI B ||| nI (enN c q), nI q + nI 1) T) else k (nI B, nI q + nI 1) T) = _
    rw [nAnd, nOr, nAdd]
    by_cases g1 : o.testBit q = true
    · rw [if_pos g1]
      by_cases g2 : B &&& enN c q = 0
      · rw [if_pos (show nI (B &&& enN c q) = 0 by rw [g2]; rfl), if_neg (fun h => h.2 g2)]
      · rw [if_neg (show ¬ nI (B &&& enN c q) = 0 by rw [lit, nEq (by omega) (by omega)]; exact g2), if_pos ⟨g1, g2⟩]
    · rw [if_neg g1, if_neg (fun h => g1 h.1)]
  · unfold f_X9_reached_29b
    simp only
    rw [hC.1, if_pos (by rw [nLe (by omega) (by omega)]; omega)]
theorem rcS_lt {c : Cv} (ok : Cok c) {o x : Nat} (hx : x < 8) (i : Nat) : ∀ q, q ≤ cm c → rcS c o (rcA c o x i) q < 256 := by
  intro q hq
  apply Nat.lt_pow_two_of_testBit (n := 8)
  intro j hj
  cases g : (rcS c o (rcA c o x i) q).testBit j with
  | false => rfl
  | true =>
    obtain ⟨n, w⟩ := rcS_sn (rcA_sn c o x i) q hq j g
    have := w.lt ok hx
    omega
theorem reach_c {T : St} {c : Cv} (ok : Cok c) (hC : CC T c) {o x : Nat} (ho : o < 4096) (hx : x < 8) : f_X9_reached (nI x) (nI o) T = some (nI (jnN c o x), T) := by
  have h12 := ok12 ok
  unfold f_X9_reached
  rw [lt_e, show (1 : Int32) <<< (nI x &&& 31) = nI (2 ^ x) from nShl (by omega)]
  -- how many sweeps
  obtain ⟨N, hN, hN1, hN2, hN3⟩ : ∃ N, N ≤ 8 ∧ 1 ≤ N ∧ rcA c o x N = rcA c o x 8 ∧ ((N < 8 → rcA c o x N = rcA c o x (N - 1)) ∧ ∀ i, 1 ≤ i → i < N → rcA c o x i ≠ rcA c o x (i - 1)) := by
    cases e : lstF (fun j => decide (rcA c o x (j + 1) = rcA c o x j)) 8 with
    | none =>
      have hn := lst_none e
      refine ⟨8, by omega, by omega, rfl, fun h => by omega, fun i h1 h2 => ?_⟩
      have := of_decide_eq_false (hn (i - 1) (by omega))
      rw [show i - 1 + 1 = i by omega] at this
      exact this
    | some j =>
      obtain ⟨a1', a2, a3⟩ := lst_some e
      have a2' := of_decide_eq_true a2
      refine ⟨j + 1, by omega, by omega, ?_, fun _ => a2', fun i h1 h2 => ?_⟩
      · have := rc_st a2' (8 - j)
        rw [show j + (8 - j) = 8 by omega] at this
        rw [this, a2']
      · have := of_decide_eq_false (a3 (i - 1) (by omega))
        rw [show i - 1 + 1 = i by omega] at this
        exact this
  have hbef : ∀ i, (if i = 0 then 0 else rcA c o x (i - 1)) < 256 := fun i => by
    split
    · omega
    · exact rcA_lt ok hx _
  have hp : 0 < 2 ^ x := Nat.two_pow_pos x
  have := lp_for (body := f_X9_reached_10b (nI o) (fun v11 S12 => some (v11.1, S12))) N (fun i => ((nI (rcA c o x i), nI (if i = 0 then 0 else rcA c o x (i - 1)), nI i), T)) (out := some (nI (jnN c o x), T)) (fun i k hi => ?_) (fun k => ?_) FU 0 (by omega) (by unfold FU; omega)
  · exact this
  · have b0 := rcA_lt ok (o := o) hx i
    have b1 := hbef i
    unfold f_X9_reached_10b
    simp only
    rw [if_neg (nLe8 (show i < 8 by omega)), if_neg (by
      rw [nEq (by omega) (by omega)]
      by_cases e : i = 0
      · subst e; rw [if_pos rfl]; show ¬ 2 ^ x = 0; omega
      · rw [if_neg e]; exact hN3.2 i (by omega) hi)]
    refine (sweep_c ok hC ho (rcS_lt ok hx i) _ _ _).trans ?_
    simp only
    rw [a1, if_neg (by omega), show i + 1 - 1 = i by omega, rcA_s]
  · unfold f_X9_reached_10b
    simp only
    rw [← rcA_8 ok hx, ← hN2]
    by_cases e : N < 8
    · rw [if_neg (nLe8 e), if_pos (by rw [if_neg (show ¬ N = 0 by omega), ← hN3.1 e])]
    · rw [if_pos (show (8 : Int32) ≤ nI N by rw [lit, nLe (by omega) (by omega)]; omega)]
theorem joins_c {T : St} {c : Cv} (ok : Cok c) (hC : CC T c) {o q : Nat} (ho : o < 4096) (hq : q < cm c) : f_X9_joinsEnds (nI o) (nI q) T = some (flI (jnB c o (ca c q) (cb c q)), T) := by
  have h12 := ok12 ok
  obtain ⟨k1, k2, _⟩ := ok.2.1 q hq
  obtain ⟨e1, e2, _⟩ := hC.2.1 q hq
  have w : inb (nI q) 12 := by rw [inb_nI (by omega)]; omega
  have hj := jn_lt c o (ca c q)
  unfold f_X9_joinsEnds
  simp only [if_pos w, nI_t (show q < 2147483648 by omega), e1]
  rw [reach_c ok hC ho (by omega), bd_e, e2]
  have tb : (jnN c o (ca c q)).testBit (cb c q) = jnB c o (ca c q) (cb c q) := by
    unfold jnN
    rw [orN_tb, decide_eq_true (show cb c q < 8 by omega), Bool.true_and]
  generalize jnN c o (ca c q) = J at tb hj
  generalize jnB c o (ca c q) (cb c q) = B at tb
  have hh := hasN (j := J) (n := cb c q) (by omega) (by omega)
  rw [tb] at hh
  cases B with
  | true => rw [if_pos (show (nI J >>> (nI (cb c q) &&& 31)) &&& (1 : Int32) = (1 : Int32) from hh.mpr rfl)]; rfl
  | false => rw [if_neg (show ¬ (nI J >>> (nI (cb c q) &&& 31)) &&& (1 : Int32) = (1 : Int32) from fun h => by have := hh.mp h; cases this)]; rfl
theorem joins_m {T : St} {c : Cv} (ok : Cok c) (hC : CM T 126 c) {o q : Nat} (hq : q < cm c) (h : DA T 136 (dM c o)) : f_X11_areJoined (gI T 124 q) (gI T 125 q) T = some (flI (jnB c o (ca c q) (cb c q)), T) := by
  obtain ⟨k1, k2, _⟩ := ok.2.1 q hq
  obtain ⟨e1, e2, _⟩ := hC.2.1 q hq
  rw [e1, e2, areJ_m h (by omega) (by omega)]
/-! ropes -/
def rpS (c : Cv) (d q : Nat) (a : Nat × Nat) : Nat × Nat := if (co c).testBit q = true ∧ cd c q = d ∧ jnB c a.1 (ca c q) (cb c q) = false then (a.1 ||| 2 ^ q, a.2 + d) else a
def rpI (c : Cv) (d : Nat) (a : Nat × Nat) : Nat → Nat × Nat := itN (rpS c d) a
def rpA (c : Cv) : Nat → Nat × Nat := itN (fun d a => rpI c (d + 1) a (cm c)) (0, 0)
theorem rpI_s (c : Cv) (d : Nat) (a : Nat × Nat) (q : Nat) : rpI c d a (q + 1) = rpS c d q (rpI c d a q) := rfl
theorem rpA_s (c : Cv) (d : Nat) : rpA c (d + 1) = rpI c (d + 1) (rpA c d) (cm c) := rfl
theorem rpI_lt {c : Cv} (d : Nat) {a : Nat × Nat} (h : a.1 < 2 ^ cm c) : ∀ q, q ≤ cm c → (rpI c d a q).1 < 2 ^ cm c := by
  intro q
  induction q with
  | zero => intro _; exact h
  | succ q ih =>
    intro hq
    rw [rpI_s, rpS]
    split
    · exact or_lt (ih (by omega)) (by omega)
    · exact ih (by omega)
theorem rpA_lt (c : Cv) : ∀ d, (rpA c d).1 < 2 ^ cm c := by
  intro d
  induction d with
  | zero => exact Nat.two_pow_pos _
  | succ d ih => rw [rpA_s]; exact rpI_lt _ ih (cm c) (Nat.le_refl _)
theorem rpi_c {T : St} {c : Cv} (ok : Cok c) (hC : CC T c) {d : Nat} (hd : d ≤ 9) {a : Nat × Nat} (ha : a.1 < 2 ^ cm c) (e : Int32 × Int32 × Int32 → St → Option (Int32 × St)) : lp (f_X10_ropes_15b (nI d) e) FU (nI a.1, nI a.2, 0) T = e (nI (rpI c d a (cm c)).1, nI (rpI c d a (cm c)).2, nI (cm c)) T := by
  have h12 := ok12 ok
  have hp := p12 h12
  refine lp_for (body := f_X10_ropes_15b (nI d) e) (cm c) (fun q => ((nI (rpI c d a q).1, nI (rpI c d a q).2, nI q), T)) (out := e (nI (rpI c d a (cm c)).1, nI (rpI c d a (cm c)).2, nI (cm c)) T) (fun q k hq => ?_) (fun k => ?_) FU 0 (by omega) (by unfold FU; omega)
  · have hl := rpI_lt d ha q (by omega)
    rw [rpI_s]
    generalize rpI c d a q = z at hl
    obtain ⟨k1, k2, ne, d1, d9, _⟩ := ok.2.1 q hq
    have w : inb (nI q) 12 := by rw [inb_nI (by omega)]; omega
    unfold f_X10_ropes_15b f_X10_ropes_80 rpS
    simp only
    rw [hC.1, if_neg (by rw [nLe (by omega) (by omega)]; omega), isOpen_c ok hC (by omega), bd_e]
    simp only [fl3z, if_pos w, nI_t (show q < 2147483648 by omega), (hC.2.1 q hq).2.2.1]
    by_cases g1 : (co c).testBit q = true
    · rw [if_pos g1]
      by_cases g2 : cd c q = d
      · rw [if_pos (by rw [g2]), joins_c ok hC (by omega) hq, bd_e]
        cases g3 : jnB c z.1 (ca c q) (cb c q) with
        | false => rw [if_pos (show flI false = 0 from rfl), lt_e, lt_e, if_pos ⟨g1, g2, rfl⟩, show (1 : Int32) <<< (nI q &&& 31) = nI (2 ^ q) from nShl (by omega), nOr, nAdd, a1]
        | true => rw [if_neg (show ¬ flI true = 0 by decide), if_neg (fun h => by cases h.2.2), a1]
      · rw [if_neg (by rw [nEq (by omega) (by omega)]; exact g2), if_neg (fun h => g2 h.2.1), a1]
    · rw [if_neg g1, if_neg (fun h => g1 h.1), a1]
  · unfold f_X10_ropes_15b
    simp only
    rw [hC.1, if_pos (by rw [nLe (by omega) (by omega)]; omega)]
theorem rpi_m {T : St} {c : Cv} (ok : Cok c) (hC : CM T 126 c) {d : Nat} (hd : d ≤ 9) {a : Nat × Nat} (ha : a.1 < 2 ^ cm c) (e : Int32 × Int32 × Int32 → St → Option (Int32 × St)) : ∃ T', lp (f_X11_ropes_20b (nI d) e) FU (nI a.1, nI a.2, 0) T = e (nI (rpI c d a (cm c)).1, nI (rpI c d a (cm c)).2, nI (cm c)) T' ∧ oG T T' := by
  have h12 := ok12 ok
  have hp := p12 h12
  have hO := okO ok
  have h0 := lp_ex (body := f_X11_ropes_20b (nI d) e) (Q := fun w => ∃ T', w = e (nI (rpI c d a (cm c)).1, nI (rpI c d a (cm c)).2, nI (cm c)) T' ∧ oG T T') (cm c) (fun q v S => v = (nI (rpI c d a q).1, nI (rpI c d a q).2, nI q) ∧ oG T S) (fun q k v S hq hI => ?_) (fun k v S hI => ?_) FU 0 (nI a.1, nI a.2, (0 : Int32)) T (by omega) (by unfold FU; omega) ⟨rfl, Sm.rf T⟩
  · exact h0
  · obtain ⟨rfl, w1⟩ := hI
    have hCS := hC.q w1.q
    have hl := rpI_lt d ha q (by omega)
    rw [rpI_s]
    generalize rpI c d a q = z at hl
    obtain ⟨k1, k2, ne, d1, d9, _⟩ := ok.2.1 q hq
    have w : inb (nI q) 12 := by rw [inb_nI (by omega)]; omega
    have w39 : inb (nI q) 39 := by rw [inb_nI (by omega)]; omega
    unfold f_X11_ropes_20b f_X11_ropes_86 f_X11_ropes_102 f_X11_ropes_115 f_X11_ropes_117 rpS
    simp only
    rw [hCS.1, if_neg (by rw [nLe (by omega) (by omega)]; omega), hCS.2.2.1, has_m S (by omega) (by omega), bd_e]
    simp only [fl3z, if_pos w, if_pos w39, nI_t (show q < 2147483648 by omega), (hCS.2.1 q hq).2.2.1]
    by_cases g1 : (co c).testBit q = true
    · rw [if_pos g1]
      by_cases g2 : cd c q = d
      · obtain ⟨S1, s1, s2, s3⟩ := lays_far ok hCS (o := z.1) (by omega)
        rw [if_pos (by rw [g2]), s1, bd_e, joins_m ok (hCS.q s2.q) hq s3, bd_e]
        cases g3 : jnB c z.1 (ca c q) (cb c q) with
        | false =>
          refine ⟨_, S1, ?_, rfl, w1.tr s2⟩
          rw [if_pos (show flI false = 0 from rfl), if_neg (show ¬ (1 : Int32) = 0 by decide), lt_e, if_neg (show ¬ (1 : Int32) = 0 by decide), lt_e, if_pos ⟨g1, g2, rfl⟩, show (1 : Int32) <<< (nI q &&& 31) = nI (2 ^ q) from nShl (by omega), nOr, nAdd, a1]
        | true =>
          refine ⟨_, S1, ?_, rfl, w1.tr s2⟩
          rw [if_neg (show ¬ flI true = 0 by decide), if_pos trivial, lt_e, if_pos trivial, lt_e, if_neg (fun h => by cases h.2.2), a1, Int32.or_zero, Int32.add_zero]
      · refine ⟨_, S, ?_, rfl, w1⟩
        rw [if_neg (by rw [nEq (by omega) (by omega)]; exact g2), if_neg (fun h => g2 h.2.1), a1]
    · refine ⟨_, S, ?_, rfl, w1⟩
      rw [if_neg g1, if_neg (fun h => g1 h.1), a1]
  · obtain ⟨rfl, w1⟩ := hI
    refine ⟨S, ?_, w1⟩
    unfold f_X11_ropes_20b
    rw [(hC.q w1.q).1, if_pos (by rw [nLe (by omega) (by omega)]; omega)]
theorem eq_ropes : EQ1 RelP f_X10_ropes f_X11_ropes := by
  apply qr
  intro S c o r hS ok hC hM
  have hp := p12 (ok12 ok)
  obtain ⟨N, hN⟩ : ∃ N, N = 9 := ⟨9, rfl⟩
  refine ⟨nI (rpA c N).2, some [(nI (rpA c N).1).toInt64, (bC (nI (rpA c N).1)).toInt64], (fun l e => by cases e; simp), ?_, fun S1 hM1 q1 => ?_⟩
  · obtain ⟨T2, p1', p2, p3, p4⟩ := put_e (nI (rpA c N).1).toInt64 (RwC.nil S) (by simp)
    obtain ⟨T3, r1, r2, r3, r4⟩ := put_e (bC (nI (rpA c N).1)).toInt64 p3 (by simp)
    refine AC.y (S1 := T3) ?_ (((q10 S 0).tr p2).tr r2) r3
    unfold f_X10_ropes
    refine lp_for (body := f_X10_ropes_6b (fun v12 S13 => bd (f_X5_begin S13) (fun r14 S15 => bd (f_X5_put v12.1.toInt64 S15) (fun r17 S18 => bd (f_J6_bitCount_0f7a4 v12.1 S18) (fun r20 S21 => bd (f_X5_put r20.toInt64 S21) (fun r23 S24 => some (v12.2.1, S24))))))) N (fun d => ((nI (rpA c d).1, nI (rpA c d).2, nI (d + 1)), S)) (out := some (nI (rpA c N).2, T3)) (fun d k hd => ?_) (fun k => ?_) FU 0 (by omega) (by unfold FU; omega)
    · unfold f_X10_ropes_6b
      simp only
      rw [if_neg (show ¬ (9 : Int32) < nI (d + 1) by rw [lit, nLt (by omega) (by omega)]; omega)]
      refine (rpi_c ok hC.1 (show d + 1 ≤ 9 by omega) (rpA_lt c d) _).trans ?_
      simp only
      rw [a1, rpA_s]
    · unfold f_X10_ropes_6b
      rw [if_pos (show (9 : Int32) < nI (N + 1) by rw [hN]; decide)]
      dsimp only
      rw [begin_e, bd_e, p1', bd_e, bc_e, bd_e, r1, bd_e]
  · have hM0 := (hM1.q (q00 S1 0)).1
    unfold f_X11_ropes
    rw [lt_e]
    have h0 := lp_ex (body := f_X11_ropes_11b (fun v18 S19 => lt (sI S19 122 1 (0 : Int32)) (fun S20 => bd (f_X11_enters v18.1.toInt64 S20) (fun r21 S22 => bd (f_J6_bitCount_0f7a4 v18.1 S22) (fun r24 S25 => bd (f_X11_enters r24.toInt64 S25) (fun r27 S28 => some (v18.2.1, S28))))))) (Q := fun w => AM w S1 (nI (rpA c N).2) (some [(nI (rpA c N).1).toInt64, (bC (nI (rpA c N).1)).toInt64])) N (fun d v T => v = (nI (rpA c d).1, nI (rpA c d).2, nI (d + 1)) ∧ oG (sI S1 122 0 0) T) (fun d k v T hd hI => ?_) (fun k v T hI => ?_) FU 0 ((0 : Int32), (0 : Int32), (1 : Int32)) (sI S1 122 0 0) (by omega) (by unfold FU; omega) ⟨rfl, Sm.rf _⟩
    · exact h0
    · obtain ⟨rfl, w1⟩ := hI
      obtain ⟨T2, t1, t2⟩ := rpi_m ok (hM0.q w1.q) (show d + 1 ≤ 9 by omega) (rpA_lt c d) (fun v15 S16 => k (v15.1, v15.2.1, (nI (d + 1) + (1 : Int32))) S16)
      refine ⟨_, T2, ?_, rfl, w1.tr t2⟩
      unfold f_X11_ropes_11b
      simp only
      rw [if_neg (show ¬ (9 : Int32) < nI (d + 1) by rw [lit, nLt (by omega) (by omega)]; omega)]
      refine t1.trans ?_
      simp only
      rw [a1, rpA_s]
    · obtain ⟨rfl, w1⟩ := hI
      obtain ⟨T2, p1', p2, p3, p4⟩ := ent_e (nI (rpA c N).1).toInt64 (RwM.nil T) (by simp)
      obtain ⟨T3, r1, r2, r3, r4⟩ := ent_e (bC (nI (rpA c N).1)).toInt64 p3 (by simp)
      refine AM.y (S1 := T3) ?_ (((((q00 S1 0).tr w1.q).tr (q01 T 0)).tr p2).tr r2) r3
      unfold f_X11_ropes_11b
      rw [if_pos (show (9 : Int32) < nI (N + 1) by rw [hN]; decide)]
      dsimp only
      rw [lt_e, p1', bd_e, bc_e, bd_e, r1, bd_e]
