/-! joined, farthest -/
def jnB (c : Cv) (o x y : Nat) : Bool := decide (dN c o x y < 1000)
def jnN (c : Cv) (o x : Nat) : Nat := orN (jnB c o x) 8
def faN (c : Cv) (o x : Nat) : Nat → Nat
  | 0 => 0
  | y + 1 => if jnB c o x y = true then max (faN c o x y) (dN c o x y) else faN c o x y
theorem fa_le (c : Cv) (o x : Nat) : ∀ y, faN c o x y ≤ 1000 := by
  intro y
  induction y with
  | zero => exact Nat.zero_le _
  | succ y ih =>
    rw [faN]
    have := dN_le c o x y
    split <;> omega
theorem dM_n {c : Cv} {o x y : Nat} (h : jnB c o x y = true) : dM c o x y = dN c o x y := by unfold dM; rw [if_pos (of_decide_eq_true h)]
theorem dM_z {c : Cv} {o x y : Nat} (h : jnB c o x y = false) : dM c o x y = 1000000 := by unfold dM; rw [if_neg (of_decide_eq_false h)]
theorem dN_z {c : Cv} {o x y : Nat} (h : jnB c o x y = false) : dN c o x y = 1000 := by
  have := dN_le c o x y
  have := of_decide_eq_false h
  omega
theorem join_c {T : St} {c : Cv} {o : Nat} (h : DA T 99 (dN c o)) {x : Nat} (hx : x < 8) : f_X9_joinedTo (nI x) T = some (nI (jnN c o x), T) := by
  refine lp_for (body := f_X9_joinedTo_4b (nI x) (fun v5 S6 => some (v5.1, S6))) 8 (fun i => ((nI (orN (jnB c o x) i), nI i), T)) (out := some (nI (jnN c o x), T)) (fun i k hi => ?_) (fun k => ?_) FU 0 (by omega) (by unfold FU; omega)
  · unfold f_X9_joinedTo_4b f_X9_joinedTo_28
    simp only
    have hl := dN_le c o x i
    rw [if_neg (nLe8 hi), far_c h hx hi, bd_e, ← orN_s (p := jnB c o x) (n := i) (by omega), a1]
    cases g : jnB c o x i with
    | true =>
      have := of_decide_eq_true g
      rw [if_neg (show ¬ (1000 : Int32) ≤ nI (dN c o x i) by rw [lit, nLe (by omega) (by omega)]; omega), lt_e, if_pos rfl]; rfl
    | false =>
      have := of_decide_eq_false g
      rw [if_pos (show (1000 : Int32) ≤ nI (dN c o x i) by rw [lit, nLe (by omega) (by omega)]; omega), if_neg (by simp)]
  · unfold f_X9_joinedTo_4b
    simp only
    rw [if_pos (show (8 : Int32) ≤ nI 8 by decide)]
    rfl
theorem areJ_m {T : St} {c : Cv} {o : Nat} (h : DA T 136 (dM c o)) {x y : Nat} (hx : x < 8) (hy : y < 8) : f_X11_areJoined (nI x) (nI y) T = some (flI (jnB c o x y), T) := by
  unfold f_X11_areJoined
  rw [far_m h hx hy, bd_e]
  have hl := dN_le c o x y
  cases g : jnB c o x y with
  | true =>
    have := of_decide_eq_true g
    rw [dM_n g, if_neg (show ¬ (1000000 : Int32) ≤ nI (dN c o x y) by rw [lit, nLe (by omega) (by omega)]; omega)]; rfl
  | false => rw [dM_z g, if_pos (show (1000000 : Int32) ≤ nI 1000000 by decide)]; rfl
theorem join_m {T : St} {c : Cv} {o : Nat} (h : DA T 136 (dM c o)) {x : Nat} (hx : x < 8) : f_X11_joinedTo (nI x) T = some (nI (jnN c o x), T) := by
  refine lp_for (body := f_X11_joinedTo_4b (nI x) (fun v5 S6 => some (v5.1, S6))) 8 (fun i => ((nI (orN (jnB c o x) i), nI i), T)) (out := some (nI (jnN c o x), T)) (fun i k hi => ?_) (fun k => ?_) FU 0 (by omega) (by unfold FU; omega)
  · unfold f_X11_joinedTo_4b f_X11_joinedTo_27
    simp only
    rw [if_neg (nLe8 hi), areJ_m h hx hi, bd_e, ← orN_s (p := jnB c o x) (n := i) (by omega)]
    cases g : jnB c o x i with
    | true => rw [if_neg (show ¬ flI true = 0 by decide), lt_e, if_pos rfl, a1]; rfl
    | false => rw [if_pos (show flI false = 0 from rfl), lt_e, if_neg (by simp), a1, Int32.or_zero]
  · unfold f_X11_joinedTo_4b
    simp only
    rw [if_pos (show (8 : Int32) ≤ nI 8 by decide)]
    rfl
theorem fart_c {T : St} {c : Cv} {o : Nat} (h : DA T 99 (dN c o)) {x : Nat} (hx : x < 8) : f_X9_farthestOf (nI x) T = some (nI (faN c o x 8), T) := by
  refine lp_for (body := f_X9_farthestOf_4b (nI x) (fun v8 S9 => some (v8.1, S9))) 8 (fun i => ((nI (faN c o x i), nI i), T)) (out := some (nI (faN c o x 8), T)) (fun i k hi => ?_) (fun k => ?_) FU 0 (by omega) (by unfold FU; omega)
  · unfold f_X9_farthestOf_4b f_X9_farthestOf_33
    simp only
    have hl := dN_le c o x i
    have hf := fa_le c o x i
    rw [if_neg (nLe8 hi), far_c h hx hi, bd_e, a1, faN]
    cases g : jnB c o x i with
    | true =>
      have := of_decide_eq_true g
      rw [if_neg (show ¬ (1000 : Int32) ≤ nI (dN c o x i) by rw [lit, nLe (by omega) (by omega)]; omega), far_c h hx hi, bd_e, lt_e, if_pos rfl, mxNI (by omega) (by omega)]
    | false =>
      have := of_decide_eq_false g
      rw [if_pos (show (1000 : Int32) ≤ nI (dN c o x i) by rw [lit, nLe (by omega) (by omega)]; omega), if_neg (by simp)]
  · unfold f_X9_farthestOf_4b
    simp only
    rw [if_pos (show (8 : Int32) ≤ nI 8 by decide)]
theorem fart_m {T : St} {c : Cv} {o : Nat} (h : DA T 136 (dM c o)) {x : Nat} (hx : x < 8) : f_X11_farthest (nI x) T = some (nI (faN c o x 8), T) := by
  refine lp_for (body := f_X11_farthest_4b (nI x) (fun v7 S8 => some (v7.1, S8))) 8 (fun i => ((nI (faN c o x i), nI i), T)) (out := some (nI (faN c o x 8), T)) (fun i k hi => ?_) (fun k => ?_) FU 0 (by omega) (by unfold FU; omega)
  · unfold f_X11_farthest_4b f_X11_farthest_33
    simp only
    have hl := dN_le c o x i
    have hf := fa_le c o x i
    rw [if_neg (nLe8 hi), areJ_m h hx hi, bd_e, a1, faN]
    cases g : jnB c o x i with
    | true => rw [if_neg (show ¬ flI true = 0 by decide), far_m h hx hi, bd_e, if_pos rfl, dM_n g, mxNI (by omega) (by omega)]
    | false => rw [if_pos (show flI false = 0 from rfl), if_neg (by simp)]
  · unfold f_X11_farthest_4b
    simp only
    rw [if_pos (show (8 : Int32) ≤ nI 8 by decide)]
theorem DA.p {T T' : St} {F : Nat → Nat → Nat} (h : DA T 99 F) (q : ∀ a b, a ≠ 10 → gI T' a b = gI T a b) : DA T' 99 F := fun x y hx hy => (q _ _ (by omega)).trans (h x y hx hy)
theorem DA.r {T T' : St} {F : Nat → Nat → Nat} (h : DA T 136 F) (q : ∀ a b, (a ≠ 122 ∨ b ≠ 1) → gI T' a b = gI T a b) : DA T' 136 F := fun x y hx hy => (q _ _ (by omega)).trans (h x y hx hy)
theorem n1z : ¬ nI 1 = (0 : Int32) := by decide
/-! cavern -/
theorem relN {S S2 : St} (hS : RelP S) (hs : ∀ o k, scr2 o k = false → gI S2 o k = gI S o k) (h1 : gI S2 10 1 = gI S 10 1) (h2 : gI S2 122 1 = gI S 122 1) (h3 : ∀ k, gL S2 11 k = gL S 11 k) (h4 : ∀ k, gL S2 123 k = gL S 123 k) : RelP S2 := hS.row hs (hS.2.2.2.1.fr h1 h2 h3 h4)
theorem eq_cavern : ∀ a1 a2 : Int32, EQX RelP (fun v : Int32 => v.toInt64) (fun v : Int32 => v.toInt64) (f_X10_cavern a1 a2) (f_X11_cavern a1 a2) := by
  intro x w S hS
  obtain ⟨c, o, r, ok, hC, hM⟩ := hS.x
  have hO := okO ok
  have bad : ∀ (hb : ¬ ((¬ x < nI 0 ∧ ¬ nI 7 < x) ∧ (¬ w < nI 0 ∧ ¬ nI 2 < w))), f_X10_cavern x w S = some (none, S) ∧ f_X11_cavern x w S = some (nI 0, sI (sI S 122 0 0) 122 0 1) := by
    intro hb
    by_cases g0 : ¬ x < nI 0 ∧ ¬ nI 7 < x
    · have g1 : ¬ (¬ w < nI 0 ∧ ¬ nI 2 < w) := fun h => hb ⟨g0, h⟩
      constructor
      · unfold f_X10_cavern f_X10_cavern_16
        rw [isCav_c, if_pos g0, bd_e, if_neg n1z]
        by_cases h1 : w < 0
        · rw [if_pos h1]
        · rw [if_neg h1, if_neg (by
            intro h2
            apply g1
            refine ⟨h1, ?_⟩
            rw [i_lt]; rw [i_le] at h2
            change _ ≤ (nI 2).toInt at h2
            omega)]
      · unfold f_X11_cavern f_X11_cavern_24 f_X11_refuse
        rw [lt_e, isCav_m, if_pos g0, bd_e, if_neg n1z, in_0_2, if_neg g1, bd_e, if_pos z00]
        rfl
    · constructor
      · unfold f_X10_cavern f_X10_cavern_16
        rw [isCav_c, ncav g0, bd_e, if_pos z00]
      · unfold f_X11_cavern f_X11_cavern_24 f_X11_refuse
        rw [lt_e, isCav_m, ncav g0, bd_e, if_pos z00]
        rfl
  by_cases hb : (¬ x < nI 0 ∧ ¬ nI 7 < x) ∧ (¬ w < nI 0 ∧ ¬ nI 2 < w)
  · obtain ⟨g0, g1⟩ := hb
    obtain ⟨st, hst, rfl⟩ := as_le g0.1 g0.2
    have wl : w ≤ 2 := by have := g1.2; rw [i_lt] at this; rw [i_le]; change ¬ (nI 2).toInt < _ at this; change _ ≤ (nI 2).toInt; omega
    have hx8 : st < 8 := by omega
    have hw : w = 0 ∨ w = 1 ∨ w = 2 := by
      obtain ⟨j, hj, rfl⟩ := as_le g1.1 g1.2
      rcases (show j = 0 ∨ j = 1 ∨ j = 2 by omega) with rfl | rfl | rfl
      · exact Or.inl rfl
      · exact Or.inr (Or.inl rfl)
      · exact Or.inr (Or.inr rfl)
    -- both sides
    have main : ∃ v S1, f_X10_cavern (nI st) w S = some (some v, S1) ∧ oD S S1 ∧ ∀ z, ∃ S2, f_X11_cavern (nI st) w (sL S1 158 0 z) = some (v, S2) ∧ oG (sI (sL S1 158 0 z) 122 0 0) S2 := by
      have mod : ∀ S1, oD S S1 → ∀ z, ∃ S2, oG (sI (sL S1 158 0 z) 122 0 0) S2 ∧ DA S2 136 (dM c (co c)) ∧ CM S2 126 c ∧ f_X11_cavern (nI st) w (sL S1 158 0 z) = (if w = 0 then bd (f_X11_openOf (nI st) S2) (fun r20 S21 => some (r20, S21)) else (if w = (1 : Int32) then bd (f_X11_joinedTo (nI st) S2) (fun r17 S18 => some (r17, S18)) else bd (f_X11_farthest (nI st) S2) (fun r14 S15 => some (r14, S15)))) := by
        intro S1 q1 z
        have hM1 : CM (sI (sL S1 158 0 z) 122 0 0) 126 c := by
          have h1 : CM S1 126 c := hM.1.c q1.q
          have h2 : CM (sL S1 158 0 z) 126 c := h1
          exact h2.q (q00 _ 0)
        obtain ⟨S2, s1, s2, s3⟩ := lays_far ok hM1 hO
        refine ⟨S2, s2, s3, hM1.q s2.q, ?_⟩
        unfold f_X11_cavern
        rw [lt_e, isCav_m, if_pos g0, bd_e, if_neg n1z, in_0_2, if_pos g1, bd_e, if_neg n1z, hM1.2.2.1, s1, bd_e]
      have pre : f_X10_cavern (nI st) w S = (if w = 0 then bd (f_X0_openOf (nI st) S) (fun r13 S14 => some (some r13, S14)) else bd (f_X9_measure S) (fun r4 S5 => (if w = (1 : Int32) then bd (f_X9_joinedTo (nI st) S5) (fun r10 S11 => some (some r10, S11)) else bd (f_X9_farthestOf (nI st) S5) (fun r7 S8 => some (some r7, S8))))) := by
        unfold f_X10_cavern
        rw [isCav_c, if_pos g0, bd_e, if_neg n1z]
        rw [if_neg (show ¬ w < 0 from g1.1), if_pos wl]
      obtain ⟨T1, m1', m2, m3⟩ := meas_c ok hC.1
      rcases hw with rfl | rfl | rfl
      · refine ⟨nI (orN (endB c (nI st)) (cm c) &&& co c), S, ?_, Sm.rf S, fun z => ?_⟩
        · rw [pre, if_pos rfl, openOf_c ok hC.1, bd_e]
        · obtain ⟨S2, t1, t2, t3, t4⟩ := mod S (Sm.rf S) z
          refine ⟨S2, ?_, t1⟩
          rw [t4, if_pos rfl, openOf_m ok t3, bd_e, open_eq ok]
      · refine ⟨nI (jnN c (co c) st), T1, ?_, m2, fun z => ?_⟩
        · rw [pre, if_neg (show ¬ (1 : Int32) = 0 by decide), m1', bd_e, if_pos rfl, join_c m3 hx8, bd_e]
        · obtain ⟨S2, t1, t2, t3, t4⟩ := mod T1 m2 z
          refine ⟨S2, ?_, t1⟩
          rw [t4, if_neg (show ¬ (1 : Int32) = 0 by decide), if_pos rfl, join_m t2 hx8, bd_e]
      · refine ⟨nI (faN c (co c) st 8), T1, ?_, m2, fun z => ?_⟩
        · rw [pre, if_neg (show ¬ (2 : Int32) = 0 by decide), m1', bd_e, if_neg (show ¬ (2 : Int32) = 1 by decide), fart_c m3 hx8, bd_e]
        · obtain ⟨S2, t1, t2, t3, t4⟩ := mod T1 m2 z
          refine ⟨S2, ?_, t1⟩
          rw [t4, if_neg (show ¬ (2 : Int32) = 0 by decide), if_neg (show ¬ (2 : Int32) = 1 by decide), fart_m t2 hx8, bd_e]
    obtain ⟨v, S1, e1, q1, e2⟩ := main
    obtain ⟨S2, e3, q2⟩ := e2 v.toInt64
    refine EQX_v S1 S2 e1 e3 rfl (q2.1 122 0 rfl) (q2.2 158 0 rfl) ?_
    refine relN hS (fun a b hab => ?_) ?_ ?_ (fun k => ?_) (fun k => ?_)
    · have h1 := q2.q.1 a b (by unfold PM; rw [hab]; simp)
      have h2 := q1.q.1 a b (by unfold PC; rw [hab]; simp)
      rw [h1, gI_s]
      by_cases e : a = 122
      · subst e
        by_cases e2 : b = 0
        · subst e2; cases hab
        · rw [if_pos rfl, if_neg e2]; exact h2
      · rw [if_neg e]; exact h2
    · exact (q2.1 10 1 rfl).trans (q1.1 10 1 rfl)
    · exact (q2.1 122 1 rfl).trans (q1.1 122 1 rfl)
    · exact (q2.2 11 k rfl).trans (q1.2 11 k rfl)
    · exact (q2.2 123 k rfl).trans (q1.2 123 k rfl)
  · obtain ⟨b1, b2⟩ := bad hb
    refine EQX_n S (sI (sI S 122 0 0) 122 0 1) b1 b2 rfl ?_
    exact hS.sim (((Sim.rf S).sI rfl).sI rfl)
/-! heart -/
def htS (c : Cv) (o x b : Nat) : Nat := if bcN (jnN c o b) < bcN (jnN c o x) ∨ (bcN (jnN c o x) = bcN (jnN c o b) ∧ faN c o x 8 < faN c o b 8) then x else b
def htA (c : Cv) (o : Nat) : Nat → Nat := itN (fun i b => htS c o (i + 1) b) 0
theorem ht_lt (c : Cv) (o : Nat) : ∀ i, i ≤ 7 → htA c o i < 8 := by
  intro i
  induction i with
  | zero => intro _; show 0 < 8; omega
  | succ i ih =>
    intro h
    have := ih (by omega)
    show htS c o (i + 1) (htA c o i) < 8
    unfold htS
    split <;> omega
theorem jn_lt (c : Cv) (o x : Nat) : jnN c o x < 256 := orN_lt (jnB c o x) 8
theorem bcJ (c : Cv) (o x : Nat) : bC (nI (jnN c o x)) = nI (bcN (jnN c o x)) := bC_c (by have := jn_lt c o x; omega)
theorem sub_n {a b : Nat} (ha : a ≤ 12) (hb : b ≤ 12) : ((0 : Int32) < nI a - nI b) = (b < a) ∧ (nI a - nI b = 0) = (a = b) := by
  have q : ∀ a, a ≤ 12 → ∀ b, b ≤ 12 → ((0 : Int32) < nI a - nI b ↔ b < a) ∧ (nI a - nI b = 0 ↔ a = b) := by decide
  exact ⟨propext (q a ha b hb).1, propext (q a ha b hb).2⟩
theorem eq_heart : EQ1 RelP f_X10_heart f_X11_heart := by
  apply qr
  intro S c o r hS ok hC hM
  have hO := okO ok
  by_cases hz : co c = 0
  · refine ⟨-2, none, (fun l e => by cases e), ?_, fun S1 hM1 q1 => ?_⟩
    · refine AC.n (S1 := S) ?_ (Sm.rf S)
      unfold f_X10_heart
      rw [hC.1.2.2.1, hz, if_pos z00]
    · refine AM.n (S1 := sI S1 122 0 0) ?_ (q00 S1 0)
      unfold f_X11_heart
      rw [lt_e, (hM1.q (q00 S1 0)).1.2.2.1, hz, if_pos z00]
  · have nz : ¬ nI (co c) = 0 := by rw [lit, nEq (by omega) (by omega)]; exact hz
    generalize hB : htA c (co c) 7 = B
    have hB8 : B < 8 := by rw [← hB]; exact ht_lt c (co c) 7 (by omega)
    refine ⟨nI B, some [(nI (faN c (co c) B 8)).toInt64, (nI (bcN (jnN c (co c) B))).toInt64], (fun l e => by cases e; simp), ?_, fun S1 hM1 q1 => ?_⟩
    · obtain ⟨T1, m1', m2, m3⟩ := meas_c ok hC.1
      obtain ⟨T2, p1', p2, p3, p4⟩ := put_e (nI (faN c (co c) B 8)).toInt64 (RwC.nil T1) (by simp)
      obtain ⟨T3, r1, r2, r3, r4⟩ := put_e (nI (bcN (jnN c (co c) B))).toInt64 p3 (by simp)
      refine AC.y (S1 := T3) ?_ (((m2.q.tr (q10 T1 0)).tr p2).tr r2) r3
      unfold f_X10_heart
      rw [hC.1.2.2.1, if_neg nz, m1', bd_e]
      refine lp_for (body := f_X10_heart_27b (fun v17 S18 => bd (f_X5_begin S18) (fun r19 S20 => bd (f_X9_farthestOf v17.1 S20) (fun r22 S23 => bd (f_X5_put r22.toInt64 S23) (fun r25 S26 => bd (f_X10_joinedCount v17.1 S26) (fun r28 S29 => bd (f_X5_put r28.toInt64 S29) (fun r31 S32 => some (v17.1, S32)))))))) 7 (fun i => ((nI (htA c (co c) i), nI (i + 1)), T1)) (out := some (nI B, T3)) (fun i k hi => ?_) (fun k => ?_) FU 0 (by omega) (by unfold FU; omega)
      · have hb := ht_lt c (co c) i (by omega)
        have es : htA c (co c) (i + 1) = htS c (co c) (i + 1) (htA c (co c) i) := rfl
        rw [es]
        generalize htA c (co c) i = b at hb
        unfold f_X10_heart_27b f_X10_joinedCount f_X10_heart_72 f_X10_heart_74 htS
        simp only
        obtain ⟨s1, s2⟩ := sub_n (bcN_le (jnN c (co c) (i + 1))) (bcN_le (jnN c (co c) b))
        rw [if_neg (nLe8 (show i + 1 < 8 by omega)), join_c m3 (by omega), bd_e, bc_e, bd_e, bd_e, join_c m3 hb, bd_e, bc_e, bd_e, bd_e, lt_e, bcJ, bcJ, fart_c m3 (by omega)]
        simp only [s1, s2, bd_e, fart_c m3 hb]
        have f1 := fa_le c (co c) (i + 1) 8
        have f2 := fa_le c (co c) b 8
        by_cases g1 : bcN (jnN c (co c) b) < bcN (jnN c (co c) (i + 1))
        · rw [if_pos g1, if_pos (Or.inl g1), a1]
        · rw [if_neg g1]
          by_cases g2 : bcN (jnN c (co c) (i + 1)) = bcN (jnN c (co c) b)
          · rw [if_pos g2]
            by_cases g3 : faN c (co c) b 8 ≤ faN c (co c) (i + 1) 8
            · rw [if_pos (by rw [nLe (by omega) (by omega)]; exact g3), if_neg (by omega), a1]
            · rw [if_neg (by rw [nLe (by omega) (by omega)]; exact g3), if_pos (Or.inr ⟨g2, by omega⟩), a1]
          · rw [if_neg g2, if_neg (by omega), a1]
      · unfold f_X10_heart_27b f_X10_joinedCount
        rw [if_pos (show (8 : Int32) ≤ nI (7 + 1) by decide)]
        dsimp only
        rw [hB, begin_e, bd_e, fart_c (m3.p e10) hB8, bd_e, p1', bd_e, join_c ((m3.p e10).p p4) hB8, bd_e, bc_e, bd_e, bd_e, bcJ, r1, bd_e]
    · have hM0 := (hM1.q (q00 S1 0)).1
      obtain ⟨T1, m1', m2, m3⟩ := lays_far ok hM0 hO
      obtain ⟨T2, p1', p2, p3, p4⟩ := ent_e (nI (faN c (co c) B 8)).toInt64 (RwM.nil T1) (by simp)
      obtain ⟨T3, r1, r2, r3, r4⟩ := ent_e (nI (bcN (jnN c (co c) B))).toInt64 p3 (by simp)
      refine AM.y (S1 := T3) ?_ (((((q00 S1 0).tr m2.q).tr (q01 T1 0)).tr p2).tr r2) r3
      unfold f_X11_heart
      rw [lt_e, hM0.2.2.1, if_neg nz, m1', bd_e]
      refine lp_for (body := f_X11_heart_33b (fun v24 S25 => lt (sI S25 122 1 (0 : Int32)) (fun S26 => bd (f_X11_farthest v24.1 S26) (fun r27 S28 => bd (f_X11_enters r27.toInt64 S28) (fun r30 S31 => bd (f_X11_joinedTo v24.1 S31) (fun r33 S34 => bd (f_J6_bitCount_0f7a4 r33 S34) (fun r36 S37 => bd (f_X11_enters r36.toInt64 S37) (fun r39 S40 => some (v24.1, S40))))))))) 7 (fun i => ((nI (htA c (co c) i), nI (i + 1)), T1)) (out := some (nI B, T3)) (fun i k hi => ?_) (fun k => ?_) FU 0 (by omega) (by unfold FU; omega)
      · have hb := ht_lt c (co c) i (by omega)
        have es : htA c (co c) (i + 1) = htS c (co c) (i + 1) (htA c (co c) i) := rfl
        rw [es]
        generalize htA c (co c) i = b at hb
        unfold f_X11_heart_33b f_X11_heart_78 f_X11_heart_82 f_X11_heart_83 htS
        simp only
        obtain ⟨s1, s2⟩ := sub_n (bcN_le (jnN c (co c) (i + 1))) (bcN_le (jnN c (co c) b))
        rw [if_neg (nLe8 (show i + 1 < 8 by omega)), join_m m3 (by omega), bd_e, bc_e, bd_e, join_m m3 hb, bd_e, bc_e, bd_e, lt_e, bcJ, bcJ, fart_m m3 (by omega)]
        simp only [s1, s2, bd_e, fart_m m3 hb]
        have f1 := fa_le c (co c) (i + 1) 8
        have f2 := fa_le c (co c) b 8
        by_cases g1 : bcN (jnN c (co c) b) < bcN (jnN c (co c) (i + 1))
        · rw [if_pos g1, if_pos (Or.inl g1), a1]
        · rw [if_neg g1]
          by_cases g2 : bcN (jnN c (co c) (i + 1)) = bcN (jnN c (co c) b)
          · rw [if_pos g2]
            by_cases g3 : faN c (co c) b 8 ≤ faN c (co c) (i + 1) 8
            · rw [if_pos (by rw [nLe (by omega) (by omega)]; exact g3), if_neg (by omega), a1]
            · rw [if_neg (by rw [nLe (by omega) (by omega)]; exact g3), if_pos (Or.inr ⟨g2, by omega⟩), a1]
          · rw [if_neg g2, if_neg (by omega), a1]
      · unfold f_X11_heart_33b
        rw [if_pos (show (8 : Int32) ≤ nI (7 + 1) by decide)]
        dsimp only
        rw [hB, lt_e, fart_m (m3.r e01) hB8, bd_e, p1', bd_e, join_m ((m3.r e01).r p4) hB8, bd_e, bc_e, bd_e, bcJ, r1, bd_e]
