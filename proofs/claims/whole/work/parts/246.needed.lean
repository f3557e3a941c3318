/-! needed -/
def exN (p : Nat → Bool) : Nat → Bool
  | 0 => false
  | n + 1 => exN p n || p n
theorem ex_i {p : Nat → Bool} : ∀ n, exN p n = true ↔ ∃ i, i < n ∧ p i = true := by
  intro n
  induction n with
  | zero => exact ⟨(fun h => by cases h), fun h => by obtain ⟨i, h1, _⟩ := h; omega⟩
  | succ n ih =>
    rw [exN, Bool.or_eq_true, ih]
    constructor
    · rintro (⟨i, h1, h2⟩ | h)
      · exact ⟨i, by omega, h2⟩
      · exact ⟨n, by omega, h⟩
    · rintro ⟨i, h1, h2⟩
      by_cases e : i = n
      · exact Or.inr (e ▸ h2)
      · exact Or.inl ⟨i, by omega, h2⟩
theorem ex_or {p : Nat → Bool} {n : Nat} : orN p n = 0 ↔ exN p n = false := by
  constructor
  · intro h
    cases g : exN p n with
    | false => rfl
    | true =>
      obtain ⟨i, h1, h2⟩ := (ex_i n).mp g
      have := orN_tb p n i
      rw [h, decide_eq_true h1, h2] at this
      simp at this
  · intro h
    apply Nat.eq_of_testBit_eq
    intro i
    rw [orN_tb, Nat.zero_testBit]
    cases g : decide (i < n) && p i with
    | false => rfl
    | true =>
      simp at g
      have := (ex_i n).mpr ⟨i, g.1, g.2⟩
      rw [h] at this; cases this
def etA (c : Cv) : Nat → Nat := itN (fun q b => if (co c).testBit q = true then b ||| enN c q else b) 0
theorem etA_s (c : Cv) (q : Nat) : etA c (q + 1) = if (co c).testBit q = true then etA c q ||| enN c q else etA c q := rfl
def etB (c : Cv) (y : Nat) : Bool := exN (fun q => (co c).testBit q && endB c (nI y) q) (cm c)
theorem et_tb {c : Cv} (ok : Cok c) {y : Nat} (hy : y < 8) : ∀ q, q ≤ cm c → (etA c q).testBit y = exN (fun q => (co c).testBit q && endB c (nI y) q) q := by
  intro q
  induction q with
  | zero => intro _; exact Nat.zero_testBit y
  | succ q ih =>
    intro hq
    have e : (enN c q).testBit y = endB c (nI y) q := by
      obtain ⟨k1, k2, _⟩ := ok.2.1 q (by omega)
      rw [en_tb]
      unfold endB
      rw [Bool.decide_or]
      congr 1
      · apply decide_eq_decide.mpr; rw [nEq (by omega) (by omega)]
      · apply decide_eq_decide.mpr; rw [nEq (by omega) (by omega)]
    rw [etA_s, exN]
    cases g : (co c).testBit q with
    | true => rw [if_pos rfl, Nat.testBit_or, ih (by omega), e]; simp
    | false => rw [if_neg (by simp), ih (by omega)]; simp
theorem et_lt {c : Cv} (ok : Cok c) : ∀ q, q ≤ cm c → etA c q < 256 := by
  intro q
  induction q with
  | zero => intro _; show 0 < 256; omega
  | succ q ih =>
    intro hq
    rw [etA_s]
    split
    · exact Nat.or_lt_two_pow (n := 8) (ih (by omega)) (en_lt ok (by omega))
    · exact ih (by omega)
def etN (c : Cv) : Nat := orN (etB c) 8
theorem et_eq {c : Cv} (ok : Cok c) : etA c (cm c) = etN c := by
  apply Nat.eq_of_testBit_eq
  intro i
  unfold etN
  rw [orN_tb]
  by_cases hi : i < 8
  · rw [et_tb ok hi (cm c) (Nat.le_refl _), decide_eq_true hi, Bool.true_and]; rfl
  · rw [decide_eq_false hi, Bool.false_and]
    have h8 : 2 ^ 8 ≤ 2 ^ i := Nat.pow_le_pow_right (n := 2) (by omega) (show 8 ≤ i by omega)
    have h9 := et_lt ok (cm c) (Nat.le_refl _)
    exact Nat.testBit_lt_two_pow (by omega)
theorem ent_c {T : St} {c : Cv} (ok : Cok c) (hC : CC T c) : f_X0_enteredCaverns T = some (nI (etN c), T) := by
  have h12 := ok12 ok
  rw [← et_eq ok]
  refine lp_for (body := f_X0_enteredCaverns_4b (fun v8 S9 => some (v8.1, S9))) (cm c) (fun q => ((nI (etA c q), nI q), T)) (out := some (nI (etA c (cm c)), T)) (fun q k hq => ?_) (fun k => ?_) FU 0 (by omega) (by unfold FU; omega)
  · rw [etA_s]
    unfold f_X0_enteredCaverns_4b f_X0_enteredCaverns_28
    simp only
    rw [hC.1, if_neg (by rw [nLe (by omega) (by omega)]; omega), isOpen_c ok hC (by omega), bd_e]
    simp only [fl3z]
    cases g : (co c).testBit q with
    | false => rw [if_neg (by simp), if_neg (by simp), a1]
    | true => rw [if_pos rfl, if_pos rfl, endsOf_c ok hC hq, bd_e, lt_e, nOr, a1]; rfl
  · unfold f_X0_enteredCaverns_4b
    simp only
    rw [hC.1, if_pos (by rw [nLe (by omega) (by omega)]; omega)]
theorem with_m {T : St} {c : Cv} (ok : Cok c) (hC : CM T 126 c) : f_X11_withPassages T = some (nI (etN c), T) := by
  have h12 := ok12 ok
  have hp := p12 h12
  refine lp_for (body := f_X11_withPassages_4b (fun v5 S6 => some (v5.1, S6))) 8 (fun i => ((nI (orN (etB c) i), nI i), T)) (out := some (nI (etN c), T)) (fun i k hi => ?_) (fun k => ?_) FU 0 (by omega) (by unfold FU; omega)
  · unfold f_X11_withPassages_4b f_X11_withPassages_26
    simp only
    have hl := orN_lt (fun q => (co c).testBit q && endB c (nI i) q) (cm c)
    rw [if_neg (nLe8 hi), openOf_m ok hC, bd_e, ← orN_s (p := etB c) (n := i) (by omega)]
    by_cases g : orN (fun q => (co c).testBit q && endB c (nI i) q) (cm c) = 0
    · have e : etB c i = false := ex_or.mp g
      rw [if_pos (show nI (orN (fun q => (co c).testBit q && endB c (nI i) q) (cm c)) = 0 by rw [g]; rfl), lt_e, if_neg (by rw [e]; simp), a1, Int32.or_zero]
    · have e : etB c i = true := by
        cases z : etB c i with
        | true => rfl
        | false => exact absurd (ex_or.mpr z) g
      rw [if_neg (show ¬ nI (orN (fun q => (co c).testBit q && endB c (nI i) q) (cm c)) = 0 by rw [lit, nEq (by omega) (by omega)]; exact g), lt_e, if_pos e, a1]; rfl
  · unfold f_X11_withPassages_4b
    simp only
    rw [if_pos (show (8 : Int32) ≤ nI 8 by decide)]
    rfl
/-! heaps -/
theorem jn_wk {c : Cv} (ok : Cok c) {o x y : Nat} (hx : x < 8) : jnB c o x y = true ↔ ∃ n, WK c o x y n := ⟨fun h => ⟨_, dN_wk (of_decide_eq_true h)⟩, fun ⟨n, w⟩ => decide_eq_true (dN_fin ok hx w)⟩
theorem jn_sym {c : Cv} (ok : Cok c) {o x y : Nat} (hx : x < 8) (hy : y < 8) (h : jnB c o x y = true) : jnB c o y x = true := by
  obtain ⟨n, w⟩ := (jn_wk ok hx).mp h
  exact (jn_wk ok hy).mpr ⟨n, w.rev⟩
theorem jn_tr {c : Cv} (ok : Cok c) {o x y z : Nat} (hx : x < 8) (hy : y < 8) (h : jnB c o x y = true) (h2 : jnB c o y z = true) : jnB c o x z = true := by
  obtain ⟨n, w⟩ := (jn_wk ok hx).mp h
  obtain ⟨n2, w2⟩ := (jn_wk ok hy).mp h2
  exact (jn_wk ok hx).mpr ⟨_, w.app w2⟩
theorem jn_rf (c : Cv) (o x : Nat) : jnB c o x x = true := decide_eq_true (by rw [dN_0]; omega)
theorem jn_en {c : Cv} (ok : Cok c) {x y : Nat} (hx : x < 8) (hne : x ≠ y) (h : jnB c (co c) x y = true) : etB c y = true := by
  obtain ⟨n, k, w⟩ := (jn_wk ok hx).mp h
  cases k with
  | zero => exact absurd w.1.symm hne
  | succ k =>
    obtain ⟨z, n', q, h1, h2, h3⟩ := w
    apply (ex_i _).mpr
    refine ⟨q, h2.1, ?_⟩
    rw [h2.2.1, Bool.true_and]
    unfold endB
    apply decide_eq_true
    rcases h2.2.2 with ⟨_, e⟩ | ⟨_, e⟩
    · exact Or.inr (by rw [e])
    · exact Or.inl (by rw [e])
/-- the first of a heap -/
def hpB (c : Cv) (x : Nat) : Bool := etB c x && alN (fun j => !jnB c (co c) x j) x
def lfB (c : Cv) (i y : Nat) : Bool := etB c y && alN (fun r => !(hpB c r && jnB c (co c) r y)) i
theorem al_i {p : Nat → Bool} : ∀ n, alN p n = true ↔ ∀ i, i < n → p i = true := by
  intro n
  constructor
  · intro h i hi
    cases g : p i with
    | true => rfl
    | false => rw [al_f n hi g] at h; cases h
  · exact al_t n
theorem lf_hp {c : Cv} (ok : Cok c) {i : Nat} (hi : i < 8) : lfB c i i = hpB c i := by
  unfold lfB
  cases g : etB c i with
  | false => unfold hpB; rw [g, Bool.false_and, Bool.false_and]
  | true =>
    have e : hpB c i = alN (fun j => !jnB c (co c) i j) i := by unfold hpB; rw [g, Bool.true_and]
    rw [e, Bool.true_and]
    cases h : alN (fun j => !jnB c (co c) i j) i with
    | true =>
      apply al_t
      intro r hr
      have := (al_i i).mp h r hr
      simp at this
      cases z : jnB c (co c) r i with
      | false => simp
      | true => rw [jn_sym ok (by omega) hi z] at this; cases this
    | false =>
      -- the least one joined
      cases l : lstF (fun j => jnB c (co c) i j) i with
      | none =>
        have hn := lst_none l
        have : alN (fun j => !jnB c (co c) i j) i = true := al_t i (fun j hj => by rw [hn j hj]; rfl)
        rw [h] at this; cases this
      | some r =>
        obtain ⟨r1, r2, r3⟩ := lst_some l
        refine al_f (j := r) i r1 ?_
        have hr : hpB c r = true := by
          unfold hpB
          rw [jn_en ok hi (by omega) r2, Bool.true_and]
          apply al_t
          intro j hj
          cases z : jnB c (co c) r j with
          | false => rfl
          | true =>
            have := jn_tr ok hi (show r < 8 by omega) r2 z
            rw [r3 j hj] at this; cases this
        rw [hr, jn_sym ok hi (by omega) r2]; rfl
theorem ntz_a {J x : Nat} {p : Nat → Bool} (hx : x < 8) (hl : J < 256) (tb : ∀ i, J.testBit i = (decide (i < 8) && p i)) (hr : p x = true) : (tzN (nI J) = nI x) ↔ alN (fun j => !p j) x = true := by
  have hx1 : J.testBit x = true := by rw [tb, decide_eq_true hx, hr]; rfl
  have nz : ¬ J = 0 := by intro e; rw [e, Nat.zero_testBit] at hx1; cases hx1
  have e := tz_all (J / 64) (by omega) (J % 64) (by omega) (by omega)
  rw [show 64 * (J / 64) + J % 64 = J by omega] at e
  rw [e]
  cases l : lstF (fun i => (J).testBit i) 12 with
  | none =>
    have := lst_none l x (by omega)
    rw [hx1] at this; cases this
  | some j =>
    obtain ⟨j1, j2, j3⟩ := lst_some l
    show nI j = nI x ↔ _
    rw [nEq (by omega) (by omega), al_i]
    constructor
    · rintro rfl i hi
      have := j3 i hi
      rw [tb, decide_eq_true (show i < 8 by omega)] at this
      simpa using this
    · intro h
      apply Decidable.byContradiction
      intro ne
      have hjx : j < x := by
        apply Decidable.byContradiction
        intro h2
        have := j3 x (by omega)
        rw [hx1] at this; cases this
      have h4 := h j hjx
      rw [tb, decide_eq_true (show j < 8 by omega)] at j2
      simp at j2 h4
      rw [j2] at h4; cases h4
theorem ntz_e {c : Cv} (o x : Nat) (hx : x < 8) : (tzN (nI (jnN c o x)) = nI x) ↔ alN (fun j => !jnB c o x j) x = true := by
  refine ntz_a (p := jnB c o x) hx (jn_lt c o x) (fun i => ?_) (jn_rf c o x)
  unfold jnN; rw [orN_tb]
def lfN (c : Cv) (i : Nat) : Nat := orN (lfB c i) 8
theorem lfN_0 (c : Cv) : lfN c 0 = etN c := by
  unfold lfN etN
  apply orN_e
  intro i _
  unfold lfB; rw [alN]; simp
theorem heaps_c {T : St} {c : Cv} (ok : Cok c) (hC : CC T c) : f_X9_heapsOf (nI (etN c)) T = some (nI (cntN (hpB c) 8), T) := by
  have hO := okO ok
  have h0 := lp_for (body := f_X9_heapsOf_7b (fun v5 S6 => some (v5.2.1, S6))) 8 (fun i => ((nI (lfN c i), nI (cntN (hpB c) i), nI i), T)) (out := some (nI (cntN (hpB c) 8), T)) (fun i k hi => ?_) (fun k => ?_) FU 0 (by omega) (by unfold FU; omega)
  · rw [lfN_0] at h0
    exact h0
  · have hl : lfN c i < 256 := orN_lt (lfB c i) 8
    have hj := jn_lt c (co c) i
    have tb : (lfN c i).testBit i = hpB c i := by
      unfold lfN
      rw [orN_tb, decide_eq_true hi, Bool.true_and, lf_hp ok hi]
    have nx : lfN c (i + 1) = if hpB c i = true then lfN c i &&& (jnN c (co c) i ^^^ 4294967295) else lfN c i := by
      apply Nat.eq_of_testBit_eq
      intro y
      have t1 : ∀ m, (lfN c m).testBit y = (decide (y < 8) && lfB c m y) := fun m => by unfold lfN; rw [orN_tb]
      have es : lfB c (i + 1) y = (lfB c i y && !(hpB c i && jnB c (co c) i y)) := by
        unfold lfB; rw [alN, Bool.and_assoc]
      by_cases hy : y < 8
      · cases g : hpB c i with
        | true =>
          rw [if_pos rfl, Nat.testBit_and, Nat.testBit_xor, t1, t1, es, g, show (4294967295 : Nat) = 2 ^ 32 - 1 from rfl, Nat.testBit_two_pow_sub_one, decide_eq_true (show y < 32 by omega), decide_eq_true hy]
          have : (jnN c (co c) i).testBit y = jnB c (co c) i y := by unfold jnN; rw [orN_tb, decide_eq_true hy, Bool.true_and]
          rw [this]
          cases lfB c i y <;> cases jnB c (co c) i y <;> rfl
        | false =>
          rw [if_neg (by simp), t1, t1, es, g]; simp
      · have z : ∀ m, (lfN c m).testBit y = false := fun m => by rw [t1, decide_eq_false hy]; rfl
        rw [z]
        split
        · rw [Nat.testBit_and, z]; rfl
        · rw [z]
    have hh := hasN (j := lfN c i) (n := i) (by omega) (by omega)
    rw [tb] at hh
    unfold f_X9_heapsOf_7b f_X9_heapsOf_48
    simp only
    rw [if_neg (nLe8 hi), nx, cntN]
    generalize hpB c i = B at hh
    cases B with
    | true =>
      rw [if_pos (show (nI (lfN c i) >>> (nI i &&& 31)) &&& (1 : Int32) = (1 : Int32) from hh.mpr rfl), hC.2.2.1, reach_c ok hC hO hi, bd_e, lt_e, if_pos rfl, if_pos rfl, show (-1 : Int32) = nI 4294967295 by decide, nXor, nAnd]
      simp only [a1]
    | false =>
      rw [if_neg (show ¬ (nI (lfN c i) >>> (nI i &&& 31)) &&& (1 : Int32) = (1 : Int32) from fun h => by have := hh.mp h; cases this), if_neg (by simp), if_neg (by simp)]
      simp only [a1, Nat.add_zero]
  · unfold f_X9_heapsOf_7b
    simp only
    rw [if_pos (show (8 : Int32) ≤ nI 8 by decide)]
theorem heaps_m {T : St} {c : Cv} (ok : Cok c) (h : DA T 136 (dM c (co c))) (x1 : Int32) (e : Int32 × Int32 → St → Option (Int32 × St)) : lp (f_X11_needed_104b x1 (nI (etN c)) e) FU (0, 0) T = e (nI (cntN (hpB c) 8), nI 8) T := by
  have hl : etN c < 256 := orN_lt (etB c) 8
  refine lp_for (body := f_X11_needed_104b x1 (nI (etN c)) e) 8 (fun i => ((nI (cntN (hpB c) i), nI i), T)) (out := e (nI (cntN (hpB c) 8), nI 8) T) (fun i k hi => ?_) (fun k => ?_) FU 0 (by omega) (by unfold FU; omega)
  · have tb : (etN c).testBit i = etB c i := by unfold etN; rw [orN_tb, decide_eq_true hi, Bool.true_and]
    unfold f_X11_needed_104b f_X11_needed_139 f_X11_needed_140
    simp only
    rw [if_neg (nLe8 hi), has_m T (by omega) (by omega), bd_e, tb, cntN]
    simp only [fl3z]
    cases g : etB c i with
    | false =>
      have hb : hpB c i = false := by unfold hpB; rw [g]; rfl
      rw [if_neg (by simp), show f_X11_flag 0 T = some (0, T) from rfl, bd_e, lt_e, hb, if_neg (by simp)]
      simp only [a1, Int32.add_zero, Nat.add_zero]
    | true =>
      have hb : hpB c i = alN (fun j => !jnB c (co c) i j) i := by unfold hpB; rw [g, Bool.true_and]
      rw [if_pos rfl, join_m h hi, bd_e, tz_e, bd_e, hb]
      by_cases g2 : alN (fun j => !jnB c (co c) i j) i = true
      · rw [if_pos ((ntz_e (co c) i hi).mpr g2), show f_X11_flag 1 T = some (1, T) from rfl, bd_e, lt_e, if_pos g2]
        simp only [a1]
      · rw [if_neg (fun z => g2 ((ntz_e (co c) i hi).mp z)), show f_X11_flag 0 T = some (0, T) from rfl, bd_e, lt_e, if_neg g2]
        simp only [a1, Int32.add_zero, Nat.add_zero]
  · unfold f_X11_needed_104b
    simp only
    rw [if_pos (show (8 : Int32) ≤ nI 8 by decide)]
def ndB (c : Cv) (q : Nat) : Bool := (co c).testBit q && !jnB c (clrN (co c) q) (ca c q) (cb c q)
theorem eq_needed : EQ1 RelP f_X10_needed f_X11_needed := by
  apply qr
  intro S c o r hS ok hC hM
  have h12 := ok12 ok
  have hp := p12 h12
  have hO := okO ok
  generalize hB : orN (ndB c) (cm c) = B
  refine ⟨nI B, some [(bC (nI B)).toInt64, (bC (nI (etN c))).toInt64, (nI (cntN (hpB c) 8)).toInt64], (fun l e => by cases e; simp), ?_, fun S1 hM1 q1 => ?_⟩
  · obtain ⟨T1, p1', p2, p3, p4⟩ := put_e (bC (nI B)).toInt64 (RwC.nil S) (by simp)
    obtain ⟨T2, r1, r2, r3, r4⟩ := put_e (bC (nI (etN c))).toInt64 p3 (by simp)
    obtain ⟨T3, s1, s2, s3, s4⟩ := put_e (nI (cntN (hpB c) 8)).toInt64 r3 (by simp)
    refine AC.y (S1 := T3) ?_ ((((q10 S 0).tr p2).tr r2).tr s2) s3
    unfold f_X10_needed
    rw [lt_e, hC.1.2.2.1]
    refine lp_for (body := f_X10_needed_15b (nI (co c)) (fun v9 S10 => bd (f_X0_enteredCaverns S10) (fun r11 S12 => bd (f_X5_begin S12) (fun r14 S15 => bd (f_J6_bitCount_0f7a4 v9.1 S15) (fun r17 S18 => bd (f_X5_put r17.toInt64 S18) (fun r20 S21 => bd (f_J6_bitCount_0f7a4 r11 S21) (fun r23 S24 => bd (f_X5_put r23.toInt64 S24) (fun r26 S27 => bd (f_X9_heapsOf r11 S27) (fun r29 S30 => bd (f_X5_put r29.toInt64 S30) (fun r32 S33 => some (v9.1, S33))))))))))) (cm c) (fun q => ((nI (orN (ndB c) q), nI q), S)) (out := some (nI B, T3)) (fun q k hq => ?_) (fun k => ?_) FU 0 (by omega) (by unfold FU; omega)
    · have cl := clrN_le (co c) q
      have ecl : nI (co c) &&& (((1 : Int32) <<< (nI q &&& 31)) ^^^ (-1 : Int32)) = nI (clrN (co c) q) := nClr (by omega)
      unfold f_X10_needed_15b f_X10_needed_61
      simp only
      rw [hC.1.1, if_neg (by rw [nLe (by omega) (by omega)]; omega), isOpen_c ok hC.1 (by omega), bd_e, ecl, ← orN_s (p := ndB c) (n := q) (by omega)]
      simp only [fl3z]
      unfold ndB
      cases g : (co c).testBit q with
      | false => rw [if_neg (by simp), if_neg (by simp), a1]
      | true =>
        rw [if_pos rfl, joins_c ok hC.1 (by omega) hq, bd_e]
        cases g2 : jnB c (clrN (co c) q) (ca c q) (cb c q) with
        | false => rw [if_pos (show flI false = 0 from rfl), lt_e, if_pos (show (true && !false) = true from rfl), a1]; rfl
        | true => rw [if_neg (show ¬ flI true = 0 by decide), if_neg (by simp), a1]
    · unfold f_X10_needed_15b
      rw [hC.1.1, if_pos (by rw [nLe (by omega) (by omega)]; omega)]
      dsimp only
      have hC3 : CC T2 c := (hC.1.q ((q10 S 0).tr p2)).q r2
      rw [hB, ent_c ok hC.1, bd_e, begin_e, bd_e, bc_e, bd_e, p1', bd_e, bc_e, bd_e, r1, bd_e, heaps_c ok hC3, bd_e, s1, bd_e]
  · have hM0 := (hM1.q (q00 S1 0)).1
    unfold f_X11_needed
    rw [lt_e]
    have h0 := lp_ex (body := f_X11_needed_9b (fun v28 S29 => bd (f_X11_laysFar (gI S29 126 36) S29) (fun r30 S31 => bd (f_X11_withPassages S31) (fun r33 S34 => lp (f_X11_needed_104b v28.1 r33 (fun v36 S37 => lt (sI S37 122 1 (0 : Int32)) (fun S38 => bd (f_J6_bitCount_0f7a4 v28.1 S38) (fun r39 S40 => bd (f_X11_enters r39.toInt64 S40) (fun r42 S43 => bd (f_J6_bitCount_0f7a4 r33 S43) (fun r45 S46 => bd (f_X11_enters r45.toInt64 S46) (fun r48 S49 => bd (f_X11_enters v36.1.toInt64 S49) (fun r51 S52 => some (v28.1, S52))))))))) FU ((0 : Int32), (0 : Int32)) S34)))) (Q := fun w => AM w S1 (nI B) (some [(bC (nI B)).toInt64, (bC (nI (etN c))).toInt64, (nI (cntN (hpB c) 8)).toInt64])) (cm c) (fun q v T => v = (nI (orN (ndB c) q), nI q) ∧ oG (sI S1 122 0 0) T) (fun q k v T hq hI => ?_) (fun k v T hI => ?_) FU 0 ((0 : Int32), (0 : Int32)) (sI S1 122 0 0) (by omega) (by unfold FU; omega) ⟨rfl, Sm.rf _⟩
    · exact h0
    · obtain ⟨rfl, w1⟩ := hI
      have hCS := hM0.q w1.q
      have cl := clrN_le (co c) q
      have ecl : nI (co c) &&& (((1 : Int32) <<< (nI q &&& 31)) ^^^ (-1 : Int32)) = nI (clrN (co c) q) := nClr (by omega)
      have w : inb (nI q) 12 := by rw [inb_nI (by omega)]; omega
      unfold f_X11_needed_9b f_X11_needed_75 f_X11_needed_77
      simp only
      rw [hCS.1, if_neg (by rw [nLe (by omega) (by omega)]; omega), hCS.2.2.1, has_m T (by omega) (by omega), bd_e, hCS.2.2.1, ecl, ← orN_s (p := ndB c) (n := q) (by omega)]
      simp only [fl3z, if_pos w, nI_t (show q < 2147483648 by omega), lt_e]
      unfold ndB
      cases g : (co c).testBit q with
      | false => exact ⟨_, T, by rw [if_neg (by simp), if_neg (by simp), a1], rfl, w1⟩
      | true =>
        obtain ⟨T2, s1, s2, s3⟩ := lays_far ok hCS (o := clrN (co c) q) (by omega)
        rw [if_pos rfl, s1, bd_e, joins_m ok (hCS.q s2.q) hq s3, bd_e]
        cases g2 : jnB c (clrN (co c) q) (ca c q) (cb c q) with
        | false => exact ⟨_, T2, by rw [if_pos (show flI false = 0 from rfl), if_pos (show (true && !false) = true from rfl), a1]; rfl, rfl, w1.tr s2⟩
        | true => exact ⟨_, T2, by rw [if_neg (show ¬ flI true = 0 by decide), if_neg (by simp), a1, Int32.or_zero], rfl, w1.tr s2⟩
    · obtain ⟨rfl, w1⟩ := hI
      have hCS := hM0.q w1.q
      obtain ⟨T0, t1, t2, t3⟩ := lays_far ok hCS hO
      obtain ⟨T1, p1', p2, p3, p4⟩ := ent_e (bC (nI B)).toInt64 (RwM.nil T0) (by simp)
      obtain ⟨T2, r1, r2, r3, r4⟩ := ent_e (bC (nI (etN c))).toInt64 p3 (by simp)
      obtain ⟨T3, s1, s2, s3, s4⟩ := ent_e (nI (cntN (hpB c) 8)).toInt64 r3 (by simp)
      refine AM.y (S1 := T3) ?_ (((((((q00 S1 0).tr w1.q).tr t2.q).tr (q01 T0 0)).tr p2).tr r2).tr s2) s3
      unfold f_X11_needed_9b
      rw [hCS.1, if_pos (by rw [nLe (by omega) (by omega)]; omega)]
      dsimp only
      rw [hB, hCS.2.2.1, t1, bd_e, with_m ok (hCS.q t2.q), bd_e]
      refine (heaps_m ok t3 _ _).trans ?_
      simp only
      rw [lt_e, bc_e, bd_e, p1', bd_e, bc_e, bd_e, r1, bd_e, s1, bd_e]
