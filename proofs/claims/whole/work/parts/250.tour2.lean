/-! the reference's plan -/
def TM (T : St) (c : Cv) (o st i : Nat) : Prop := ∀ l a, l < i → a < 8 → gI T 145 (8 * l + a) = nI (tm (dM c o) st l a)
abbrev oU : St → St → Prop := Sm (fun a _ => decide (a ≠ 145)) (fun _ => true)
theorem oU.q {T T' : St} (h : oU T T') : QM T T' := by
  refine ⟨fun a b hab => h.1 a b ?_, fun a b _ => h.2 a b rfl⟩
  have e1 : a ≠ 145 := by intro e; subst e; cases hab
  simp [e1]
theorem DA.u {T T' : St} {F : Nat → Nat → Nat} (h : DA T 136 F) (q : oU T T') : DA T' 136 F := fun x y hx hy => (q.1 136 _ rfl).trans (h x y hx hy)
theorem least_m {T : St} {c : Cv} {o st l a z : Nat} (hF : DA T 136 (dM c o)) (hT : TM T c o st l) (hl : l < 256) (ha : a < 8) (hz : z ≤ 1000000) (x1 x3 : Int32) (e : Int32 × Int32 → St → Option (Int32 × St)) : lp (f_X11_tour_104b x1 x3 (nI l) (nI a) e) FU (nI z, 0) T = e (nI (itN (tmF (dM c o) (tm (dM c o) st) l a) z 8), nI 8) T := by
  refine lp_for (body := f_X11_tour_104b x1 x3 (nI l) (nI a) e) 8 (fun d => ((nI (itN (tmF (dM c o) (tm (dM c o) st) l a) z d), nI d), T)) (out := e (nI (itN (tmF (dM c o) (tm (dM c o) st) l a) z 8), nI 8) T) (fun d k hd => ?_) (fun k => ?_) FU 0 (by omega) (by unfold FU; omega)
  · have vl := tv_le (dM c o) (tm (dM c o) st) l a z d
    have d1 := dM_le c o a d
    have ecl : nI l &&& (((1 : Int32) <<< (nI d &&& 31)) ^^^ (-1 : Int32)) = nI (clrN l d) := nClr (by omega)
    have cl := clrN_le l d
    rw [itN_s]
    generalize itN (tmF (dM c o) (tm (dM c o) st) l a) z d = v at vl
    unfold f_X11_tour_104b f_X11_tour_159 f_X11_place tmF
    simp only
    rw [if_neg (nLe8 hd), has_m T (by omega) (by omega), bd_e]
    simp only [fl3z, bd_e, ecl, i8x]
    by_cases g : l.testBit d = true
    · have hc := clr_lt g (by omega)
      have t1 := tm_le (c := c) (o := o) (st := st) (clrN l d) d
      rw [if_pos g, if_pos g, far_m hF ha hd, bd_e, if_pos (show inb (nI (8 * clrN l d + d)) 2048 by rw [inb_nI (by omega)]; omega), nI_t (by omega), hT (clrN l d) d hc hd, nAdd, mnNI (by omega) (by omega), a1]
    · rw [if_neg g, if_neg g, a1]
  · unfold f_X11_tour_104b
    simp only
    rw [if_pos (show (8 : Int32) ≤ nI 8 by decide)]
theorem trow_m {T : St} {c : Cv} {o st l : Nat} (hst : st < 8) (hF : DA T 136 (dM c o)) (hT : TM T c o st l) (hl : l < 256) (x3 : Int32) (e : Int32 → St → Option (Int32 × St)) : ∃ T', lp (f_X11_tour_74b (nI st) x3 (nI l) e) FU 0 T = e (nI 8) T' ∧ oU T T' ∧ TM T' c o st (l + 1) := by
  have h0 := lp_ex (body := f_X11_tour_74b (nI st) x3 (nI l) e) (Q := fun w => ∃ T', w = e (nI 8) T' ∧ oU T T' ∧ TM T' c o st (l + 1)) 8 (fun a v S => v = nI a ∧ oU T S ∧ TM S c o st l ∧ ∀ b, b < a → gI S 145 (8 * l + b) = nI (tm (dM c o) st l b)) (fun a k v S ha hI => ?_) (fun k v S hI => ?_) FU 0 (0 : Int32) T (by omega) (by unfold FU; omega) ⟨rfl, Sm.rf T, hT, fun b hb => by omega⟩
  · exact h0
  · obtain ⟨rfl, w1, w2, w3⟩ := hI
    have hF' := hF.u w1
    refine ⟨nI (a + 1), sI S 145 (8 * l + a) (nI (tm (dM c o) st l a)), ?_, rfl, w1.sI rfl, fun l2 a2 h1 h3 => ?_, fun b hb => ?_⟩
    · have d1 := dM_le c o a st
      unfold f_X11_tour_74b f_X11_tour_99
      rw [if_neg (nLe8 ha), far_m hF' ha hst, bd_e]
      have fin : ∀ z, z ≤ 1000000 → z = (if l = 0 then dM c o a st else 1000000) → lp (f_X11_tour_104b (nI st) x3 (nI l) (nI a) (fun v31 S32 => bd (f_X11_place (nI l) (nI a) S32) (fun r33 S34 => if inb r33 2048 then lt (sI S34 145 r33.toNatClampNeg v31.1) (fun S37 => k (nI a + (1 : Int32)) S37) else none))) FU (nI z, (0 : Int32)) S = k (nI (a + 1)) (sI S 145 (8 * l + a) (nI (tm (dM c o) st l a))) := by
        intro z hz ez
        refine (least_m hF' w2 hl ha hz _ _ _).trans ?_
        unfold f_X11_place
        simp only [bd_e, i8x]
        rw [if_pos (show inb (nI (8 * l + a)) 2048 by rw [inb_nI (by omega)]; omega), lt_e, nI_t (by omega), a1, tm_e]
        unfold tmV
        rw [ez]
      by_cases g : l = 0
      · rw [if_pos (show nI l = 0 by rw [g]; rfl)]
        exact fin _ d1 (by rw [if_pos g])
      · rw [if_neg (show ¬ nI l = 0 by rw [lit, nEq (by omega) (by omega)]; exact g)]
        exact fin 1000000 (by omega) (by rw [if_neg g])
    · rw [gI_s, if_pos rfl, if_neg (by omega)]; exact w2 l2 a2 h1 h3
    · rw [gI_s, if_pos rfl]
      by_cases z : b = a
      · rw [if_pos (by omega), z]
      · rw [if_neg (by omega)]; exact w3 b (by omega)
  · obtain ⟨rfl, w1, w2, w3⟩ := hI
    refine ⟨S, ?_, w1, fun l2 a2 h1 h3 => ?_⟩
    · unfold f_X11_tour_74b
      rw [if_pos (show (8 : Int32) ≤ nI 8 by decide)]
    · by_cases z : l2 = l
      · rw [z]; exact w3 a2 h3
      · exact w2 l2 a2 (by omega) h3
theorem tplan_m {T : St} {c : Cv} {o st : Nat} (hst : st < 8) (hF : DA T 136 (dM c o)) (N : Nat) (hN : N = 256) (x3 : Int32) (e : Int32 → St → Option (Int32 × St)) : ∃ T', lp (f_X11_tour_63b (nI st) x3 e) FU 0 T = e (nI N) T' ∧ oU T T' ∧ TM T' c o st N := by
  have h0 := lp_ex (body := f_X11_tour_63b (nI st) x3 e) (Q := fun w => ∃ T', w = e (nI N) T' ∧ oU T T' ∧ TM T' c o st N) N (fun l v S => v = nI l ∧ oU T S ∧ TM S c o st l) (fun l k v S hl hI => ?_) (fun k v S hI => ?_) FU 0 (0 : Int32) T (by omega) (by unfold FU; omega) ⟨rfl, Sm.rf T, fun l a h => by omega⟩
  · exact h0
  · obtain ⟨rfl, w1, w2⟩ := hI
    obtain ⟨S1, s1, s2, s3⟩ := trow_m hst (hF.u w1) w2 (show l < 256 by omega) x3 (fun v41 S42 => k (nI l + (1 : Int32)) S42)
    refine ⟨nI (l + 1), S1, ?_, rfl, w1.tr s2, s3⟩
    unfold f_X11_tour_63b
    rw [if_neg (show ¬ (256 : Int32) ≤ nI l by rw [lit, nLe (by omega) (by omega)]; omega)]
    refine s1.trans ?_
    rw [a1]
  · obtain ⟨rfl, w1, w2⟩ := hI
    refine ⟨S, ?_, w1, w2⟩
    unfold f_X11_tour_63b
    rw [if_pos (show (256 : Int32) ≤ nI N by rw [hN]; decide)]
/-! the way -/
def tsS (c : Cv) (o st : Nat) (s : Nat × Nat) : Nat × Nat := match amA c o st s.1 s.2 8 with
  | none => s
  | some b => (clrN s.1 b, b)
def tsA (c : Cv) (o st D : Nat) : Nat → Nat × Nat := itN (fun _ s => tsS c o st s) (D, st)
theorem tsA_s (c : Cv) (o st D i : Nat) : tsA c o st D (i + 1) = tsS c o st (tsA c o st D i) := rfl
theorem cnt_dn {f g : Nat → Bool} {k : Nat} : ∀ n, k < n → f k = true → g k = false → (∀ i, i ≠ k → f i = g i) → cntN f n = cntN g n + 1 := by
  intro n
  induction n with
  | zero => intro h; omega
  | succ n ih =>
    intro hk h1 h2 h3
    rw [cntN, cntN]
    by_cases e : k = n
    · subst e
      rw [cnt_cg k (fun i hi => h3 i (by omega)), if_pos h1, if_neg (by rw [h2]; simp)]
    · rw [ih (by omega) h1 h2 h3, h3 n (by omega)]; omega
theorem bcN_clr {x b : Nat} (hb : b < 12) (h : x.testBit b = true) : bcN x = bcN (clrN x b) + 1 := by
  have tb : ∀ i, i < 32 → (clrN x b).testBit i = (x.testBit i && !decide (b = i)) := fun i hi => clr_tb hi
  have e : bcN (clrN x b) = cntN (fun i => x.testBit i && !decide (b = i)) 12 := by
    apply cnt_cg
    intro i hi
    exact tb i (by omega)
  rw [e]
  refine cnt_dn (k := b) 12 hb h (by simp) (fun i hi => ?_)
  rw [decide_eq_false (fun z => hi z.symm)]; simp
theorem bcN_0 {x : Nat} (hx : x < 256) (h : bcN x = 0) : x = 0 := by
  apply Nat.eq_of_testBit_eq
  intro i
  rw [Nat.zero_testBit]
  cases g : x.testBit i with
  | false => rfl
  | true =>
    have hi : i < 8 := by
      apply Decidable.byContradiction
      intro hn
      have h2 : 2 ^ 8 ≤ 2 ^ i := Nat.pow_le_pow_right (by omega) (by omega)
      rw [Nat.testBit_lt_two_pow (by omega)] at g; cases g
    have := bcN_clr (show i < 12 by omega) g
    omega
theorem ts_in {c : Cv} {o st D : Nat} (hst : st < 8) (hD : inJ c o st D) (hD8 : D < 256) : ∀ i, i ≤ bcN D → (tsA c o st D i).1 < 256 ∧ (tsA c o st D i).1 &&& (D ^^^ 4294967295) = 0 ∧ (tsA c o st D i).2 < 8 ∧ jnB c o st (tsA c o st D i).2 = true ∧ bcN (tsA c o st D i).1 + i = bcN D ∧ (i < bcN D → ∃ b, amA c o st (tsA c o st D i).1 (tsA c o st D i).2 8 = some b ∧ b < 8 ∧ (tsA c o st D i).1.testBit b = true ∧ tsA c o st D (i + 1) = (clrN (tsA c o st D i).1 b, b)) := by
  have step : ∀ s : Nat × Nat, s.1 < 256 → bcN s.1 ≠ 0 → ∃ b, amA c o st s.1 s.2 8 = some b ∧ b < 8 ∧ s.1.testBit b = true ∧ tsS c o st s = (clrN s.1 b, b) := by
    intro s hs hb
    cases g : amA c o st s.1 s.2 8 with
    | none =>
      exfalso
      apply hb
      have hn := (am_in c o st s.1 s.2 8).1 g
      have : s.1 = 0 := by
        apply Nat.eq_of_testBit_eq
        intro i
        rw [Nat.zero_testBit]
        by_cases hi : i < 8
        · exact hn i hi
        · have h2 : 2 ^ 8 ≤ 2 ^ i := Nat.pow_le_pow_right (by omega) (by omega)
          exact Nat.testBit_lt_two_pow (by omega)
      rw [this]; rfl
    | some b =>
      obtain ⟨b1, b2, _⟩ := (am_in c o st s.1 s.2 8).2 b g
      refine ⟨b, rfl, b1, b2, ?_⟩
      unfold tsS; rw [g]
  intro i
  induction i with
  | zero =>
    intro _
    refine ⟨hD8, (sub0 (m := 8) (show D < 2 ^ 8 by omega) (by omega)).mpr (fun _ _ h => h), hst, jn_rf c o st, rfl, fun h => ?_⟩
    obtain ⟨b, e1, e2, e3, e4⟩ := step (D, st) hD8 (show bcN D ≠ 0 by omega)
    exact ⟨b, e1, e2, e3, e4⟩
  | succ i ih =>
    intro hi
    obtain ⟨h1, h2, h3, h4, h5, h6⟩ := ih (by omega)
    obtain ⟨b, e1, e2, e3, e4⟩ := h6 (by omega)
    have cl := clrN_le (tsA c o st D i).1 b
    have bc := bcN_clr (show b < 12 by omega) e3
    have hJ := sub_in hD h1 h2 b e3
    rw [e4]
    refine ⟨by show clrN _ _ < 256; omega, clr_sub0 h2, e2, hJ.2, by show bcN (clrN _ _) + (i + 1) = _; omega, fun h => ?_⟩
    have := step (clrN (tsA c o st D i).1 b, b) (by show clrN _ _ < 256; omega) (by show bcN (clrN _ _) ≠ 0; omega)
    rw [tsA_s, e4]
    exact this
theorem find_m {T : St} {c : Cv} (ok : Cok c) {o st l a b : Nat} (hst : st < 8) (hF : DA T 136 (dM c o)) (hT : TM T c o st 256) (hl : l < 256) (hJ : inJ c o st l) (ha : a < 8) (hj : jnB c o st a = true) (h : amA c o st l a 8 = some b) (x1 x3 : Int32) (e : Int32 → St → Option (Int32 × St)) : lp (f_X11_tour_212b x1 x3 (nI a) (nI l) e) FU 0 T = e (nI b) T := by
  obtain ⟨e1, e2⟩ := am_tm ok hst hJ ha hj h
  obtain ⟨b1, b2, b3⟩ := lst_some e2
  have tl := tm_le (c := c) (o := o) (st := st) l a
  have step : ∀ i, i < 8 → ∀ k, f_X11_tour_212b x1 x3 (nI a) (nI l) e k (nI i) T = if (l.testBit i && decide (tgN c o st l a i = tm (dM c o) st l a)) = true then e (nI i) T else k (nI (i + 1)) T := by
    intro i hi k
    have ecl : nI l &&& (((1 : Int32) <<< (nI i &&& 31)) ^^^ (-1 : Int32)) = nI (clrN l i) := nClr (by omega)
    have cl := clrN_le l i
    unfold f_X11_tour_212b f_X11_tour_265 f_X11_place
    rw [has_m T (by omega) (by omega), bd_e]
    simp only [fl3z, bd_e, ecl, i8x]
    cases g : l.testBit i with
    | false => rw [if_neg (by simp), if_neg (by simp), a1]
    | true =>
      have dm : dM c o a i = dN c o a i := dM_n (jn_tr ok ha hst (jn_sym ok hst ha hj) (hJ i g).2)
      have t1 := tg_lt (c := c) o st l a i
      rw [if_pos rfl, far_m hF ha hi, bd_e, if_pos (show inb (nI (8 * clrN l i + i)) 2048 by rw [inb_nI (by omega)]; omega), if_pos (show inb (nI (8 * l + a)) 2048 by rw [inb_nI (by omega)]; omega), nI_t (by omega), nI_t (by omega), hT (clrN l i) i (by omega) hi, hT l a hl ha, nAdd, dm]
      show (if nI (tgN c o st l a i) = nI (tm (dM c o) st l a) then e (nI i) T else k (nI i + 1) T) = _
      by_cases z : tgN c o st l a i = tm (dM c o) st l a
      · rw [if_pos (by rw [z]), if_pos (by rw [decide_eq_true z]; rfl)]
      · rw [if_neg (by rw [nEq (by omega) (by omega)]; exact z), if_neg (by rw [decide_eq_false z]; simp), a1]
  refine lp_for (body := f_X11_tour_212b x1 x3 (nI a) (nI l) e) b (fun i => (nI i, T)) (out := e (nI b) T) (fun i k hi => ?_) (fun k => ?_) FU 0 (by omega) (by unfold FU; omega)
  · rw [step i (by omega), if_neg (by rw [b3 i hi]; simp)]
  · rw [step b b1, if_pos b2]
theorem TC.p {T T' : St} {c : Cv} {o st D i : Nat} (h : TC T c o st D i) (q : ∀ a b, a ≠ 10 → gI T' a b = gI T a b) : TC T' c o st D i := fun l a h1 h2 h3 h4 => (q _ _ (by omega)).trans (h l a h1 h2 h3 h4)
theorem TM.r {T T' : St} {c : Cv} {o st i : Nat} (h : TM T c o st i) (q : ∀ a b, (a ≠ 122 ∨ b ≠ 1) → gI T' a b = gI T a b) : TM T' c o st i := fun l a h1 h3 => (q _ _ (by omega)).trans (h l a h1 h3)
theorem eq_tour : ∀ a1 a2 : Int32, EQ1 RelP (f_X10_tour a1 a2) (f_X11_tour a1 a2) := by
  intro x y
  apply qr
  intro S c o r hS ok hC hM
  have hO := okO ok
  by_cases g0 : ¬ x < nI 0 ∧ ¬ nI 7 < x
  · by_cases g1 : ¬ y < nI 0 ∧ ¬ nI 255 < y
    · obtain ⟨st, hst, rfl⟩ := as_le g0.1 g0.2
      obtain ⟨w, hw, rfl⟩ := as_le g1.1 g1.2
      have hs8 : st < 8 := by omega
      obtain ⟨T1, m1', m2, m3⟩ := meas_c ok hC.1
      have hJl := jn_lt c (co c) st
      have tJ : ∀ i, i < 8 → (jnN c (co c) st).testBit i = jnB c (co c) st i := fun i hi => by unfold jnN; rw [orN_tb, decide_eq_true hi, Bool.true_and]
      have cl := clrN_le w st
      have ecl : nI w &&& (((1 : Int32) <<< (nI st &&& 31)) ^^^ (-1 : Int32)) = nI (clrN w st) := nClr (by omega)
      have n1' : ∀ l, nI l &&& (nI (jnN c (co c) st) ^^^ (-1 : Int32)) = nI (l &&& (jnN c (co c) st ^^^ 4294967295)) := fun l => by rw [show (-1 : Int32) = nI 4294967295 by decide, nXor, nAnd]
      have la : ∀ l, l &&& (jnN c (co c) st ^^^ 4294967295) ≤ l := fun l => Nat.and_le_left
      have same : w &&& (jnN c (co c) st ^^^ 4294967295) = 0 ↔ clrN w st &&& (jnN c (co c) st ^^^ 4294967295) = 0 := by
        constructor
        · intro h; exact clr_sub0 h
        · intro h
          rw [sub0 (m := 8) (show w < 2 ^ 8 by omega) (by omega)]
          rw [sub0 (m := 8) (show clrN w st < 2 ^ 8 by omega) (by omega)] at h
          intro i hi hs
          by_cases e : i = st
          · rw [e, tJ st hs8]; exact jn_rf c (co c) st
          · apply h i hi
            have := clr_tb (a := w) (n := st) (i := i) (by omega)
            change (clrN w st).testBit i = _ at this
            rw [this, hs, decide_eq_false (fun z => e z.symm)]; rfl
      by_cases hj : w &&& (jnN c (co c) st ^^^ 4294967295) = 0
      · have hj2 := same.mp hj
        have hD8 : clrN w st < 256 := by omega
        have hD : inJ c (co c) st (clrN w st) := by
          intro d hd
          have h8 : d < 8 := by
            apply Decidable.byContradiction
            intro hn
            have h2 : 2 ^ 8 ≤ 2 ^ d := Nat.pow_le_pow_right (by omega) (by omega)
            rw [Nat.testBit_lt_two_pow (by omega)] at hd; cases hd
          refine ⟨h8, ?_⟩
          rw [← tJ d h8]
          exact (sub0 (m := 8) (show clrN w st < 2 ^ 8 by omega) (by omega)).mp hj2 d h8 hd
        generalize hDD : clrN w st = D at hj2 hD8 hD ecl
        have bl := bcN_le D
        have tin := ts_in (c := c) (o := co c) hs8 hD hD8
        refine ⟨nI (tm (dM c (co c)) st D st), some (rowF (fun i => optI (amA c (co c) st (tsA c (co c) st D i).1 (tsA c (co c) st D i).2 8)) (bcN D)), (fun l e => by cases e; rw [rowF_l]; omega), ?_, fun S1 hM1 q1 => ?_⟩
        · obtain ⟨T2, p1', p2, p3⟩ := plan_c ok hs8 m3 hD hD8
          unfold f_X10_tour f_X9_minutesLeft
          rw [isCav_c, if_pos g0, bd_e, if_neg n1z, if_neg (show ¬ nI w < 0 from g1.1), if_pos (show nI w ≤ 255 by rw [lit, nLe (by omega) (by omega)]; exact hw), m1', bd_e, join_c m3 hs8, bd_e, n1', if_pos (show nI (w &&& (jnN c (co c) st ^^^ 4294967295)) = 0 by rw [hj]; rfl), lt_e, ecl, p1', bd_e, ix8, if_pos (show inb (nI (8 * D + st)) 2048 by rw [inb_nI (by omega)]; omega), nI_t (by omega), p3 D st (by omega) (tin 0 (by omega)).2.1 hs8 (jn_rf c (co c) st), bd_e, begin_e, bd_e, bc_e, bd_e, show bC (nI D) = nI (bcN D) from bC_c (by omega)]
          have h0 := lp_ex (body := f_X10_tour_89b (nI (tm (dM c (co c)) st D st)) (fun v30 S31 => some (nI (tm (dM c (co c)) st D st), S31))) (Q := fun z => AC z S (nI (tm (dM c (co c)) st D st)) (some (rowF (fun i => optI (amA c (co c) st (tsA c (co c) st D i).1 (tsA c (co c) st D i).2 8)) (bcN D)))) (bcN D) (fun i v T => v = (nI (tsA c (co c) st D i).1, nI (tsA c (co c) st D i).2, nI (bcN D - i)) ∧ QC S T ∧ DA T 99 (dN c (co c)) ∧ TC T c (co c) st D (D + 1) ∧ RwC T (rowF (fun i => optI (amA c (co c) st (tsA c (co c) st D i).1 (tsA c (co c) st D i).2 8)) i)) (fun i k v T hi hI => ?_) (fun k v T hI => ?_) FU 0 (nI D, nI st, nI (bcN D)) (sI T2 10 1 0) (by omega) (by unfold FU; omega) ⟨rfl, (m2.q.tr p2.q).tr (q10 T2 0), (m3.t p2).p e10, p3.p e10, RwC.nil T2⟩
          · exact h0
          · obtain ⟨rfl, w1, w2, w3, w4⟩ := hI
            obtain ⟨s1, s2, s3, s4, s5, s6⟩ := tin i (by omega)
            obtain ⟨b, b1, b2, b3, b4⟩ := s6 hi
            have sl : (tsA c (co c) st D i).1 ≤ D := by
              have e : (tsA c (co c) st D i).1 &&& D = (tsA c (co c) st D i).1 := by
                have h2 := (sub0 (m := 8) (show (tsA c (co c) st D i).1 < 2 ^ 8 by omega) (by omega)).mp s2
                apply Nat.eq_of_testBit_eq
                intro j
                rw [Nat.testBit_and]
                cases g : (tsA c (co c) st D i).1.testBit j with
                | false => rfl
                | true =>
                  have hj8 := (sub_in hD s1 s2 j g).1
                  rw [h2 j hj8 g]; rfl
              have := Nat.and_le_right (n := (tsA c (co c) st D i).1) (m := D)
              omega
            have eb : nI (tsA c (co c) st D i).1 &&& (((1 : Int32) <<< (nI b &&& 31)) ^^^ (-1 : Int32)) = nI (clrN (tsA c (co c) st D i).1 b) := nClr (by omega)
            obtain ⟨T3, u1, u2, u3, u4⟩ := put_e (nI b).toInt64 w4 (by rw [rowF_l]; omega)
            refine ⟨(nI (tsA c (co c) st D (i + 1)).1, nI (tsA c (co c) st D (i + 1)).2, nI (bcN D - (i + 1))), T3, ?_, rfl, w1.tr u2, w2.p u4, w3.p u4, ?_⟩
            · unfold f_X10_tour_89b
              simp only
              rw [if_neg (show ¬ nI (bcN D - i) ≤ 0 by rw [lit, nLe (by omega) (by omega)]; omega), nxt_c2 w2 w3 hD s1 (by omega) s2 s3, bd_e, b1]
              show lt (nI (tsA c (co c) st D i).1 &&& (((1 : Int32) <<< (nI b &&& 31)) ^^^ (-1 : Int32))) (fun y4 => bd (f_X5_put (nI b).toInt64 T) (fun r5 S6 => k (y4, nI b, (nI (bcN D - i) + (-1 : Int32))) S6)) = _
              rw [lt_e, u1, bd_e, eb, p1 (by omega), b4, show bcN D - i - 1 = bcN D - (i + 1) by omega]
            · rw [rowF, b1]; exact u3
          · obtain ⟨rfl, w1, w2, w3, w4⟩ := hI
            refine AC.y (S1 := T) ?_ w1 w4
            unfold f_X10_tour_89b
            simp only
            rw [if_pos (show nI (bcN D - bcN D) ≤ 0 by rw [Nat.sub_self]; decide)]
        · have hM0 := (hM1.q (q00 S1 0)).1
          obtain ⟨U1, f1, f2, f3⟩ := lays_far ok hM0 hO
          obtain ⟨N, hN⟩ : ∃ N, N = 256 := ⟨256, rfl⟩
          unfold f_X11_tour
          rw [lt_e, isCav_m, if_pos g0, bd_e, if_neg n1z, in_0_255, if_pos g1, bd_e, if_neg n1z, hM0.2.2.1, f1, bd_e, lt_e, ecl, join_m f3 hs8, bd_e, n1', if_pos (show nI (D &&& (jnN c (co c) st ^^^ 4294967295)) = 0 by rw [hj2]; rfl)]
          obtain ⟨U2, k1, k2, k3⟩ := tplan_m (c := c) (o := co c) (T := U1) hs8 f3 N hN (nI D) (fun v57 S58 => lt (sI S58 122 1 (0 : Int32)) (fun S59 => lp (f_X11_tour_204b (nI st) (nI D) (fun v60 S61 => bd (f_X11_place (nI D) (nI st) S61) (fun r62 S63 => if inb r62 2048 then some ((gI S63 145 r62.toNatClampNeg), S63) else none))) FU (nI st, nI D) S59))
          rw [k1, lt_e]
          rw [hN] at k3
          have h0 := lp_ex (body := f_X11_tour_204b (nI st) (nI D) (fun v60 S61 => bd (f_X11_place (nI D) (nI st) S61) (fun r62 S63 => if inb r62 2048 then some ((gI S63 145 r62.toNatClampNeg), S63) else none))) (Q := fun z => AM z S1 (nI (tm (dM c (co c)) st D st)) (some (rowF (fun i => optI (amA c (co c) st (tsA c (co c) st D i).1 (tsA c (co c) st D i).2 8)) (bcN D)))) (bcN D) (fun i v T => v = (nI (tsA c (co c) st D i).2, nI (tsA c (co c) st D i).1) ∧ QM S1 T ∧ DA T 136 (dM c (co c)) ∧ TM T c (co c) st 256 ∧ RwM T (rowF (fun i => optI (amA c (co c) st (tsA c (co c) st D i).1 (tsA c (co c) st D i).2 8)) i)) (fun i k v T hi hI => ?_) (fun k v T hI => ?_) FU 0 (nI st, nI D) (sI U2 122 1 0) (by omega) (by unfold FU; omega) ⟨rfl, (((q00 S1 0).tr f2.q).tr k2.q).tr (q01 U2 0), (f3.u k2).r e01, k3.r e01, RwM.nil U2⟩
          · exact h0
          · obtain ⟨rfl, w1, w2, w3, w4⟩ := hI
            obtain ⟨s1, s2, s3, s4, s5, s6⟩ := tin i (by omega)
            obtain ⟨b, b1, b2, b3, b4⟩ := s6 hi
            have nz : (tsA c (co c) st D i).1 ≠ 0 := by intro e; rw [e, Nat.zero_testBit] at b3; cases b3
            have eb : nI (tsA c (co c) st D i).1 &&& (((1 : Int32) <<< (nI b &&& 31)) ^^^ (-1 : Int32)) = nI (clrN (tsA c (co c) st D i).1 b) := nClr (by omega)
            obtain ⟨T3, u1, u2, u3, u4⟩ := ent_e (nI b).toInt64 w4 (by rw [rowF_l]; omega)
            refine ⟨(nI (tsA c (co c) st D (i + 1)).2, nI (tsA c (co c) st D (i + 1)).1), T3, ?_, rfl, w1.tr u2, w2.r u4, w3.r u4, ?_⟩
            · unfold f_X11_tour_204b
              simp only
              rw [if_neg (show ¬ nI (tsA c (co c) st D i).1 = 0 by rw [lit, nEq (by omega) (by omega)]; exact nz)]
              refine (find_m ok hs8 w2 w3 s1 (sub_in hD s1 s2) s3 s4 b1 _ _ _).trans ?_
              rw [lt_e, eb, u1, bd_e, b4]
            · rw [rowF, b1]; exact u3
          · obtain ⟨rfl, w1, w2, w3, w4⟩ := hI
            obtain ⟨s1, s2, s3, s4, s5, s6⟩ := tin (bcN D) (Nat.le_refl _)
            have z := bcN_0 s1 (by omega)
            refine AM.y (S1 := T) ?_ w1 w4
            unfold f_X11_tour_204b f_X11_place
            simp only
            rw [z, if_pos z00, bd_e, i8x, if_pos (show inb (nI (8 * D + st)) 2048 by rw [inb_nI (by omega)]; omega), nI_t (by omega), w3 D st hD8 hs8]
      · have hj2 : ¬ clrN w st &&& (jnN c (co c) st ^^^ 4294967295) = 0 := fun h => hj (same.mpr h)
        have lw := la w
        have lc := la (clrN w st)
        refine ⟨-2, none, (fun l e => by cases e), ?_, fun S1 hM1 q1 => ?_⟩
        · refine AC.n (S1 := T1) ?_ m2.q (m2.1 10 1 rfl) (fun k => m2.2 11 k rfl)
          unfold f_X10_tour
          rw [isCav_c, if_pos g0, bd_e, if_neg n1z, if_neg (show ¬ nI w < 0 from g1.1), if_pos (show nI w ≤ 255 by rw [lit, nLe (by omega) (by omega)]; exact hw), m1', bd_e, join_c m3 hs8, bd_e, n1', if_neg (show ¬ nI (w &&& (jnN c (co c) st ^^^ 4294967295)) = 0 by rw [lit, nEq (by omega) (by omega)]; exact hj)]
        · have hM0 := (hM1.q (q00 S1 0)).1
          obtain ⟨U1, f1, f2, f3⟩ := lays_far ok hM0 hO
          refine AM.n (S1 := U1) ?_ ((q00 S1 0).tr f2.q) (f2.1 122 1 rfl) (fun k => f2.2 123 k rfl)
          unfold f_X11_tour
          rw [lt_e, isCav_m, if_pos g0, bd_e, if_neg n1z, in_0_255, if_pos g1, bd_e, if_neg n1z, hM0.2.2.1, f1, bd_e, lt_e, ecl, join_m f3 hs8, bd_e, n1', if_neg (show ¬ nI (clrN w st &&& (jnN c (co c) st ^^^ 4294967295)) = 0 by rw [lit, nEq (by omega) (by omega)]; exact hj2)]
    · refine ⟨-1, none, (fun l e => by cases e), ?_, fun S1 hM1 q1 => ?_⟩
      · refine AC.n (S1 := S) ?_ (Sm.rf S)
        unfold f_X10_tour
        rw [isCav_c, if_pos g0, bd_e, if_neg n1z]
        by_cases h1 : y < 0
        · rw [if_pos h1]
        · rw [if_neg h1, if_neg (by
            intro h2
            apply g1
            refine ⟨h1, ?_⟩
            rw [i_lt]; rw [i_le] at h2
            change _ ≤ (nI 255).toInt at h2
            omega)]
      · refine AM.n (S1 := sI S1 122 0 0) ?_ (q00 S1 0)
        unfold f_X11_tour
        rw [lt_e, isCav_m, if_pos g0, bd_e, if_neg n1z, in_0_255, if_neg g1, bd_e, if_pos z00]
  · refine ⟨-1, none, (fun l e => by cases e), ?_, fun S1 hM1 q1 => ?_⟩
    · refine AC.n (S1 := S) ?_ (Sm.rf S)
      unfold f_X10_tour
      rw [isCav_c, ncav g0, bd_e, if_pos z00]
    · refine AM.n (S1 := sI S1 122 0 0) ?_ (q00 S1 0)
      unfold f_X11_tour
      rw [lt_e, isCav_m, ncav g0, bd_e, if_pos z00]
