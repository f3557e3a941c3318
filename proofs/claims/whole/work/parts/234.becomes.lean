/-! two words -/
def pL (t : Nat → Int32) (n : Nat) : Nat := min (ldN (fun i => ltB (t i)) n) 6
def pOk (t : Nat → Int32) (n : Nat) : Prop := pL t n ≠ 0 ∧ pL t n < n ∧ t (pL t n) = nI 59
def pL2 (t : Nat → Int32) (n : Nat) : Nat := min (ldN (fun i => ltB (t (pL t n + 1 + i))) (n - (pL t n + 1))) (pL t n)
def pFn (t : Nat → Int32) (n : Nat) : Prop := pOk t n ∧ pL2 t n = pL t n ∧ n ≤ 2 * pL t n + 1
theorem eq59 (x : Int32) : (¬ x < 59 ∧ ¬ 59 < x) = (x = nI 59) := by
  apply propext
  constructor
  · rintro ⟨h1, h2⟩
    rw [i_lt] at h1 h2
    rw [i_eq]
    change ¬ _ < (nI 59).toInt at h1
    change ¬ (nI 59).toInt < _ at h2
    omega
  · rintro rfl; exact ⟨by decide, by decide⟩
theorem pair_c {T : St} {n : Nat} (hn : n ≤ 80) (hT : gI T 1 1 = nI n) : (pFn (gI T 2) n → f_X8_faultOfPair T = some (-1, T)) ∧ (pOk (gI T 2) n → ¬ pFn (gI T 2) n → f_X8_faultOfPair T = some (nI (pL (gI T 2) n + 1 + pL2 (gI T 2) n), T)) ∧ (¬ pOk (gI T 2) n → f_X8_faultOfPair T = some (nI (pL (gI T 2) n), T)) := by
  have e0 := letters_c hn hT (p := 0) (by omega)
  simp only [Nat.zero_add, Nat.sub_zero] at e0
  have h1 := (ld_a (fun i => ltB (gI T 2 i)) n).1
  have eL : mnI (nI (ldN (fun i => ltB (gI T 2 i)) n)) 6 = nI (pL (gI T 2) n) := mnNI (b := 6) (by omega) (by omega)
  have hL : pL (gI T 2) n ≤ 6 := Nat.min_le_right _ _
  have main : pOk (gI T 2) n → f_X8_faultOfPair T = (if nI (pL (gI T 2) n + 1 + pL2 (gI T 2) n) < (((2 : Int32) * nI (pL (gI T 2) n)) + (1 : Int32)) then f_X8_faultOfPair_70 (nI (pL (gI T 2) n + 1 + pL2 (gI T 2) n)) T else (if (gI T 1 1) ≤ nI (pL (gI T 2) n + 1 + pL2 (gI T 2) n) then some ((-1 : Int32), T) else f_X8_faultOfPair_70 (nI (pL (gI T 2) n + 1 + pL2 (gI T 2) n)) T)) := by
    rintro ⟨g1, g2, g3⟩
    have e1 := letters_c hn hT (p := pL (gI T 2) n + 1) (by omega)
    have h2 := (ld_a (fun i => ltB (gI T 2 (pL (gI T 2) n + 1 + i))) (n - (pL (gI T 2) n + 1))).1
    have eM : mnI (nI (ldN (fun i => ltB (gI T 2 (pL (gI T 2) n + 1 + i))) (n - (pL (gI T 2) n + 1)))) (nI (pL (gI T 2) n)) = nI (pL2 (gI T 2) n) := mnNI (by omega) (by omega)
    unfold f_X8_faultOfPair
    rw [show (0 : Int32) = nI 0 from rfl, e0, bd_e, lt_e, eL, if_neg (by rw [nEq (by omega) (by omega)]; exact g1), hT, if_neg (by rw [nLe (by omega) (by omega)]; omega), within_c (by omega), bd_e]
    simp only [fl3]
    rw [if_pos (by rw [eq59]; exact g3), a1, e1, bd_e, lt_e, eM, nAdd, hT]
  have hL2 : pL2 (gI T 2) n ≤ pL (gI T 2) n := Nat.min_le_right _ _
  have e2 : ((2 : Int32) * nI (pL (gI T 2) n)) + (1 : Int32) = nI (2 * pL (gI T 2) n + 1) := by rw [show (2 : Int32) = nI 2 from rfl, nMul, a1]
  refine ⟨fun hf => ?_, fun ho hf => ?_, fun ho => ?_⟩
  · obtain ⟨h3, h4, h5⟩ := hf
    rw [main h3, e2, if_neg (by rw [nLt (by omega) (by omega)]; omega), hT, if_pos (by rw [nLe (by omega) (by omega)]; omega)]
  · rw [main ho, e2]
    unfold f_X8_faultOfPair_70
    by_cases g : pL2 (gI T 2) n = pL (gI T 2) n
    · rw [if_neg (by rw [nLt (by omega) (by omega)]; omega), hT, if_neg (by
        rw [nLe (by omega) (by omega)]
        intro q
        exact hf ⟨ho, g, by omega⟩)]
    · rw [if_pos (by rw [nLt (by omega) (by omega)]; omega)]
  · unfold f_X8_faultOfPair
    rw [show (0 : Int32) = nI 0 from rfl, e0, bd_e, lt_e, eL]
    by_cases g1 : pL (gI T 2) n = 0
    · rw [if_pos (by rw [g1])]
    · rw [if_neg (by rw [nEq (by omega) (by omega)]; exact g1), hT]
      by_cases g2 : n ≤ pL (gI T 2) n
      · rw [if_pos (by rw [nLe (by omega) (by omega)]; exact g2)]
      · rw [if_neg (by rw [nLe (by omega) (by omega)]; exact g2), within_c (by omega), bd_e]
        simp only [fl3]
        rw [if_neg (by rw [eq59]; exact fun g3 => ho ⟨g1, by omega, g3⟩)]
/-- the reference reads the second word -/
abbrev oW : St → St → Prop := Sm (fun o k => decide (o ≠ 138) && decide (o ≠ 143) && (decide (o ≠ 122) || decide (k ≠ 11))) (fun _ => true)
theorem oW.q {T T' : St} (h : oW T T') : QM T T' := by
  refine ⟨fun a b hab => h.1 a b ?_, fun a b _ => h.2 a b rfl⟩
  have e1 : a ≠ 138 := by intro e; subst e; cases hab
  have e2 : a ≠ 143 := by intro e; subst e; cases hab
  by_cases e3 : a = 122
  · have e4 : b ≠ 11 := by intro e; subst e; subst e3; cases hab
    simp [e1, e2, e4]
  · simp [e1, e2, e3]
theorem word_m {T : St} {a t L : Nat} (ha : gI T 122 11 = nI a) (ht : gI T 122 12 = nI t) (h80 : t ≤ 80) (h : a ≤ t) (hL : L ≤ 6) (e : Int32 × Int32 → St → Option (Int32 × St)) (he : ∀ w x y S, e (w, x) S = e (w, y) S) : ∃ T', lp (f_X11_becomes_38b (nI L) e) FU (1, 0) T = e (flI (decide (L ≤ min (ldN (fun i => ltB (gI T 128 (a + i))) (t - a)) L)), nI L) T' ∧ gI T' 122 11 = nI (a + min (ldN (fun i => ltB (gI T 128 (a + i))) (t - a)) L) ∧ (∀ j, j < min (ldN (fun i => ltB (gI T 128 (a + i))) (t - a)) L → gI T' 143 j = gI T 128 (a + j) - 97) ∧ oW T T' ∧ ∀ j, gI T' 138 j = gI T 138 j := by
  obtain ⟨h1, h2, h3⟩ := ld_a (fun i => ltB (gI T 128 (a + i))) (t - a)
  generalize hD : ldN (fun i => ltB (gI T 128 (a + i))) (t - a) = D at h1 h2 h3
  have hM : min D L ≤ L ∧ min D L ≤ D := ⟨Nat.min_le_right _ _, Nat.min_le_left _ _⟩
  generalize hm : min D L = M at hM
  have h0 := lp_ex (body := f_X11_becomes_38b (nI L) e) (Q := fun z => ∃ T', z = e (flI (decide (L ≤ M)), nI L) T' ∧ gI T' 122 11 = nI (a + M) ∧ (∀ j, j < M → gI T' 143 j = gI T 128 (a + j) - 97) ∧ oW T T' ∧ ∀ j, gI T' 138 j = gI T 138 j) (if M < L then M + 1 else M) (fun i v S => v = (flI (decide (i ≤ M)), nI i) ∧ gI S 122 11 = nI (a + min i M) ∧ (∀ j, j < min i M → gI S 143 j = gI T 128 (a + j) - 97) ∧ oW T S ∧ ∀ j, gI S 138 j = gI T 138 j) (fun i k v S hi hI => ?_) (fun k v S hI => ?_) FU 0 ((1 : Int32), (0 : Int32)) T (by omega) (by unfold FU; split <;> omega) ⟨?_, ?_, fun j hj => by omega, Sm.rf T, fun _ => rfl⟩
  · exact h0
  · obtain ⟨rfl, e1, e2, q, e3⟩ := hI
    have hiM : i ≤ M ∧ i < L := by split at hi <;> omega
    have et : gI S 122 12 = nI t := (q.1 122 12 rfl).trans ht
    rw [Nat.min_eq_left hiM.1] at e1 e2
    unfold f_X11_becomes_38b f_X11_becomes_77
    simp only
    rw [if_neg (by rw [nLe (by omega) (by omega)]; omega), decide_eq_true hiM.1, if_neg (show ¬ flI true = 0 by decide), isLet_m e1 et h80 (by omega), bd_e]
    by_cases g : i < M
    · have gl : a + i < t ∧ ltB (gI S 128 (a + i)) = true := ⟨by omega, by rw [q.1 128 _ rfl]; exact h2 i (by omega)⟩
      refine ⟨(flI (decide (i + 1 ≤ M)), nI (i + 1)), sI (sI S 143 i (gI T 128 (a + i) - 97)) 122 11 (nI (a + (i + 1))), ?_, rfl, ?_, fun j hj => ?_, (q.sI rfl).sI rfl, e3⟩
      · rw [if_pos gl, if_neg (show ¬ nI 1 = 0 by decide), e1, if_pos (show inb (nI (a + i)) 80 by rw [inb_nI (by omega)]; omega), if_pos (show inb (nI i) 6 by rw [inb_nI (by omega)]; omega), lt_e, nI_t (by omega), nI_t (by omega), show f_X11_flag (nI 1) _ = some (nI 1, _) from rfl, bd_e, lt_e, show gI (sI S 143 i (gI S 128 (a + i) - 97)) 122 11 = gI S 122 11 from rfl, e1, nAdd, a1, q.1 128 _ rfl, decide_eq_true (show i + 1 ≤ M by omega)]
        rfl
      · rw [Nat.min_eq_left (by omega)]; rfl
      · rw [Nat.min_eq_left (by omega)] at hj
        show (if j = i then gI T 128 (a + i) - 97 else gI S 143 j) = _
        by_cases ej : j = i
        · rw [if_pos ej, ej]
        · rw [if_neg ej]; exact e2 j (by omega)
    · have hiE : i = M := by omega
      have gl : ¬ (a + i < t ∧ ltB (gI S 128 (a + i)) = true) := by
        rintro ⟨g1, g2⟩
        rw [q.1 128 _ rfl] at g2
        have : i = D := by omega
        subst this
        rw [h3 (by omega)] at g2; cases g2
      refine ⟨(flI (decide (i + 1 ≤ M)), nI (i + 1)), sI (sI S 143 i (-1)) 122 11 (nI (a + i)), ?_, rfl, ?_, fun j hj => ?_, (q.sI rfl).sI rfl, e3⟩
      · rw [if_neg gl, if_pos z00, if_pos (show inb (nI i) 6 by rw [inb_nI (by omega)]; omega), lt_e, nI_t (by omega), show f_X11_flag (nI 0) _ = some (nI 0, _) from rfl, bd_e, lt_e, show gI (sI S 143 i (-1)) 122 11 = gI S 122 11 from rfl, e1, nAdd, a1, decide_eq_false (show ¬ i + 1 ≤ M by omega)]
        rfl
      · rw [Nat.min_eq_right (by omega), hiE]; rfl
      · rw [Nat.min_eq_right (by omega)] at hj
        show (if j = i then (-1 : Int32) else gI S 143 j) = _
        rw [if_neg (by omega)]; exact e2 j (by omega)
  · obtain ⟨rfl, e1, e2, q, e3⟩ := hI
    refine ⟨S, ?_, ?_, fun j hj => e2 j ?_, q, e3⟩
    · unfold f_X11_becomes_38b
      by_cases g : M < L
      · simp only [if_pos g]
        rw [decide_eq_false (show ¬ M + 1 ≤ M by omega), decide_eq_false (show ¬ L ≤ M by omega)]
        by_cases g2 : L ≤ M + 1
        · rw [if_pos (by rw [nLe (by omega) (by omega)]; exact g2)]; exact he _ _ _ _
        · rw [if_neg (by rw [nLe (by omega) (by omega)]; exact g2), if_pos (show flI false = 0 from rfl)]; exact he _ _ _ _
      · simp only [if_neg g]
        rw [if_pos (by rw [nLe (by omega) (by omega)]; omega), decide_eq_true (show M ≤ M by omega), decide_eq_true (show L ≤ M by omega)]; exact he _ _ _ _
    · rw [e1]; congr 2; split <;> omega
    · split <;> omega
  · rw [decide_eq_true (by omega)]; rfl
  · rw [Nat.min_eq_left (by omega)]; exact ha
/-! becomes -/
def trB (c : Cv) (r : Rl) (L : Nat) (tx wx : Nat → Int32) (l : Pth) : Bool := alN (fun p => decide (cmo c r (nI p) l (tx p) = wx p)) L
theorem turn_c {T : St} {c : Cv} {o : Nat} {r : Rl} {l : Pth} {x L : Nat} {tx wx : Nat → Int32} (ok : Cok c) (h : CX T c o r) (hE : ECs c T l x) (hl : Pok c l) (hL : L ≤ 6) (ht : ∀ i, i < L → gI T 2 i - 97 = tx i) (hw : ∀ i, i < L → gI T 2 (L + 1 + i) - 97 = wx i) : ∃ T', f_X10_turnsIntoOther (nI L) T = some (flI (trB c r L tx wx l), T') ∧ oR T T' := by
  obtain ⟨h1, h2, h3⟩ := ld_a (fun p => decide (cmo c r (nI p) l (tx p) = wx p)) L
  unfold trB
  rw [al_l]
  generalize hD : ldN (fun p => decide (cmo c r (nI p) l (tx p) = wx p)) L = D at *
  have step : ∀ i S, i < L → oR T S → ∃ T', oR T T' ∧ ∀ (e k : Int32 → St → Option (Int32 × St)), f_X10_turnsIntoOther_2b (nI L) e k (nI i) S = (if cmo c r (nI i) l (tx i) = wx i then k (nI (i + 1)) T' else some ((0 : Int32), T')) := by
    intro i S hi q
    have hCS := h.q q.j.q
    obtain ⟨T2, s1, s2⟩ := cmo_c ok hCS.1 hCS.2.1 (hE.o q.j) hl (tx i) (nI i)
    refine ⟨T2, q.tr s2, fun e k => ?_⟩
    unfold f_X10_turnsIntoOther_2b
    rw [if_neg (by rw [nLe (by omega) (by omega)]; omega), if_pos (isRl hCS).1, (isRl hCS).2, let_c (by omega), bd_e, q.1 2 i rfl, ht i hi, s1, bd_e, a1, nAdd, let_c (by omega), bd_e, s2.1 2 _ rfl, q.1 2 _ rfl, hw i hi, a1]
  have h0 := lp_ex (body := f_X10_turnsIntoOther_2b (nI L) (fun v11 S12 => some ((1 : Int32), S12))) (Q := fun z => ∃ T', z = some (flI (decide (L ≤ D)), T') ∧ oR T T') D (fun i v S => v = nI i ∧ oR T S) (fun i k v S hi hI => ?_) (fun k v S hI => ?_) FU 0 (0 : Int32) T (by omega) (by unfold FU; omega) ⟨rfl, Sm.rf T⟩
  · exact h0
  · obtain ⟨rfl, q⟩ := hI
    obtain ⟨T', s1, s2⟩ := step i S (by omega) q
    exact ⟨_, T', by rw [s2, if_pos (of_decide_eq_true (h2 i hi))], rfl, s1⟩
  · obtain ⟨rfl, q⟩ := hI
    by_cases g : L ≤ D
    · refine ⟨S, ?_, q⟩
      unfold f_X10_turnsIntoOther_2b
      rw [if_pos (by rw [nLe (by omega) (by omega)]; omega), decide_eq_true g]; rfl
    · obtain ⟨T', s1, s2⟩ := step D S (by omega) q
      refine ⟨T', ?_, s1⟩
      rw [s2, if_neg (of_decide_eq_false (h3 (by omega))), decide_eq_false g]; rfl
theorem turn_m {T : St} {c : Cv} {r : Rl} {l : Pth} {x L : Nat} {tx wx : Nat → Int32} (ok : Cok c) (h : MX T c r) (hE : EMs c T l x) (hl : Pok c l) (hL : L ≤ 6) (ht : ∀ i, i < L → gI T 138 i = tx i) (hw : ∀ i, i < L → gI T 143 i = wx i) (x3 x4 x5 : Int32) (e : Int32 × Int32 → St → Option (Int32 × St)) : ∃ T', lp (f_X11_becomes_181b (nI L) x3 x4 x5 e) FU (1, 0) T = e (flI (trB c r L tx wx l), nI L) T' ∧ oK T T' := by
  have h0 := lp_ex (body := f_X11_becomes_181b (nI L) x3 x4 x5 e) (Q := fun z => ∃ T', z = e (flI (trB c r L tx wx l), nI L) T' ∧ oK T T') L (fun i v S => v = (flI (trB c r i tx wx l), nI i) ∧ oK T S) (fun i k v S hi hI => ?_) (fun k v S hI => ?_) FU 0 ((1 : Int32), (0 : Int32)) T (by omega) (by unfold FU; omega) ⟨rfl, Sm.rf T⟩
  · exact h0
  · obtain ⟨rfl, q⟩ := hI
    have es : trB c r (i + 1) tx wx l = (trB c r i tx wx l && decide (cmo c r (nI i) l (tx i) = wx i)) := rfl
    rw [es]
    have wi : inb (nI i) 6 := by rw [inb_nI (by omega)]; omega
    unfold f_X11_becomes_181b f_X11_becomes_223 f_X11_becomes_224
    simp only
    rw [if_neg (by rw [nLe (by omega) (by omega)]; omega), a1]
    cases g : trB c r i tx wx l with
    | false => exact ⟨_, S, by rw [if_pos (show flI false = 0 from rfl)]; rfl, rfl, q⟩
    | true =>
      have hCS := h.q q.j.q
      obtain ⟨T2, s1, s2⟩ := cmo_m ok hCS.1 (by omega) (by omega) (by omega) hCS.2 (hE.o q.j) hl (tx i) (nI i)
      refine ⟨_, T2, ?_, rfl, q.tr s2⟩
      rw [if_neg (show ¬ flI true = 0 by decide)]
      simp only [if_pos wi, nI_t (show i < 2147483648 by omega)]
      rw [q.1 138 i rfl, ht i hi, s1, bd_e, s2.1 143 i rfl, q.1 143 i rfl, hw i hi]
      by_cases g2 : cmo c r (nI i) l (tx i) = wx i
      · rw [if_pos g2, decide_eq_true g2]; rfl
      · rw [if_neg g2, decide_eq_false g2]; rfl
  · obtain ⟨rfl, q⟩ := hI
    refine ⟨S, ?_, q⟩
    unfold f_X11_becomes_181b
    rw [if_pos (by rw [nLe (by omega) (by omega)]; omega)]
def bmB (c : Cv) (r : Rl) (L : Nat) (tx wx : Nat → Int32) (st q : Nat) : Bool := echB c st q && trB c r L tx wx (pth c st q)
theorem bmi_c {S T : St} {c : Cv} {o : Nat} {r : Rl} {L : Nat} {tx wx : Nat → Int32} {lp0 : Pr} (ok : Cok c) (h : CX T c o r) (hL : L ≤ 6) (ht : ∀ i, i < L → gI T 2 i - 97 = tx i) (hw : ∀ i, i < L → gI T 2 (L + 1 + i) - 97 = wx i) (hr : RwC T (prR lp0)) {st : Nat} (hst : st ≤ 7) (e : Int32 × Int32 → St → Option (Int32 × St)) : ∃ T', lp (f_X10_becomes_57b (nI L) (nI st) e) FU (nI lp0.length, 0) T = e (nI (prI (bmB c r L tx wx) st lp0 (cm c)).length, nI (cm c)) T' ∧ QC T T' ∧ RwC T' (prR (prI (bmB c r L tx wx) st lp0 (cm c))) ∧ ∀ i, gI T' 2 i = gI T 2 i := by
  have h12 := ok12 ok
  have h0 := lp_ex (body := f_X10_becomes_57b (nI L) (nI st) e) (Q := fun z => ∃ T', z = e (nI (prI (bmB c r L tx wx) st lp0 (cm c)).length, nI (cm c)) T' ∧ QC T T' ∧ RwC T' (prR (prI (bmB c r L tx wx) st lp0 (cm c))) ∧ ∀ i, gI T' 2 i = gI T 2 i) (cm c) (fun j v S => v = (nI (prI (bmB c r L tx wx) st lp0 j).length, nI j) ∧ QC T S ∧ RwC S (prR (prI (bmB c r L tx wx) st lp0 j)) ∧ ∀ i, gI S 2 i = gI T 2 i) (fun j k v S hj hI => ?_) (fun k v S hI => ?_) FU 0 (nI lp0.length, (0 : Int32)) T (by omega) (by unfold FU; omega) ⟨rfl, Sm.rf T, hr, fun _ => rfl⟩
  · exact h0
  · obtain ⟨rfl, q, w, w2⟩ := hI
    have es : prI (bmB c r L tx wx) st lp0 (j + 1) = prS (bmB c r L tx wx) st j (prI (bmB c r L tx wx) st lp0 j) := rfl
    rw [es, prS]
    generalize prI (bmB c r L tx wx) st lp0 j = LL at w
    have hCS := h.q q
    obtain ⟨T1, g1, g2, g3⟩ := goes_b ok hCS.1 hst hj
    unfold f_X10_becomes_57b f_X10_becomes_102
    simp only
    rw [hCS.1.1, if_neg (by rw [nLe (by omega) (by omega)]; omega), g1, bd_e]
    unfold bmB
    have t2 : ∀ i, gI T1 2 i = gI T 2 i := fun i => (g2.1 2 i (by omega) (by omega) (by omega)).trans (w2 i)
    cases hb : echB c st j with
    | false => exact ⟨_, T1, by rw [if_pos (show flI false = 0 from rfl), a1]; rfl, rfl, q.tr g2.q, w.e g2, t2⟩
    | true =>
      obtain ⟨T2, u1, u2⟩ := turn_c (tx := tx) (wx := wx) ok (hCS.q g2.q) (g3 hb) (pth_ok ok hst hj) hL (fun i hi => by rw [t2]; exact ht i hi) (fun i hi => by rw [t2]; exact hw i hi)
      rw [if_neg (show ¬ flI true = 0 by decide), u1, bd_e]
      have t3 : ∀ i, gI T2 2 i = gI T 2 i := fun i => (u2.1 2 i rfl).trans (t2 i)
      cases hb2 : trB c r L tx wx (pth c st j) with
      | false => exact ⟨_, T2, by rw [if_pos (show flI false = 0 from rfl), a1]; rfl, rfl, (q.tr g2.q).tr u2.j.q, (w.e g2).o u2.j, t3⟩
      | true =>
        obtain ⟨T3, p1', p2, p3, p4⟩ := putF ((w.e g2).o u2.j) st j
        refine ⟨_, T3, ?_, rfl, ((q.tr g2.q).tr u2.j.q).tr p2, p3, fun i => (p4 2 i (by omega)).trans (t3 i)⟩
        rw [if_neg (show ¬ flI true = 0 by decide), p1', bd_e, show (true && true) = true from rfl, if_pos rfl, List.length_append]
        simp only [a1, List.length_singleton]
  · obtain ⟨rfl, q, w, w2⟩ := hI
    refine ⟨S, ?_, q, w, w2⟩
    unfold f_X10_becomes_57b
    rw [(h.q q).1.1, if_pos (by rw [nLe (by omega) (by omega)]; omega)]
theorem bmi_m {T : St} {c : Cv} {r : Rl} {L : Nat} {tx wx : Nat → Int32} {lp0 : Pr} (ok : Cok c) (h : MX T c r) (hL : L ≤ 6) (ht : ∀ i, i < L → gI T 138 i = tx i) (hw : ∀ i, i < L → gI T 143 i = wx i) (hr : RwM T (prR lp0)) (hlp : lp0.length ≤ 1000) {st : Nat} (hst : st ≤ 7) (e : Int32 × Int32 → St → Option (Int32 × St)) : ∃ T', lp (f_X11_becomes_139b (nI L) (nI st) e) FU (nI lp0.length, 0) T = e (nI (prI (bmB c r L tx wx) st lp0 (cm c)).length, nI (cm c)) T' ∧ QM T T' ∧ RwM T' (prR (prI (bmB c r L tx wx) st lp0 (cm c))) ∧ (∀ i, gI T' 138 i = gI T 138 i) ∧ ∀ i, gI T' 143 i = gI T 143 i := by
  have h12 := ok12 ok
  have h0 := lp_ex (body := f_X11_becomes_139b (nI L) (nI st) e) (Q := fun z => ∃ T', z = e (nI (prI (bmB c r L tx wx) st lp0 (cm c)).length, nI (cm c)) T' ∧ QM T T' ∧ RwM T' (prR (prI (bmB c r L tx wx) st lp0 (cm c))) ∧ (∀ i, gI T' 138 i = gI T 138 i) ∧ ∀ i, gI T' 143 i = gI T 143 i) (cm c) (fun j v S => v = (nI (prI (bmB c r L tx wx) st lp0 j).length, nI j) ∧ QM T S ∧ RwM S (prR (prI (bmB c r L tx wx) st lp0 j)) ∧ (∀ i, gI S 138 i = gI T 138 i) ∧ ∀ i, gI S 143 i = gI T 143 i) (fun j k v S hj hI => ?_) (fun k v S hI => ?_) FU 0 (nI lp0.length, (0 : Int32)) T (by omega) (by unfold FU; omega) ⟨rfl, Sm.rf T, hr, fun _ => rfl, fun _ => rfl⟩
  · exact h0
  · obtain ⟨rfl, q, w, w2, w3⟩ := hI
    have es : prI (bmB c r L tx wx) st lp0 (j + 1) = prS (bmB c r L tx wx) st j (prI (bmB c r L tx wx) st lp0 j) := rfl
    have bl := prI_l (bmB c r L tx wx) st lp0 j
    rw [es, prS]
    generalize prI (bmB c r L tx wx) st lp0 j = LL at w bl
    have hCS := h.q q
    unfold f_X11_becomes_139b f_X11_becomes_263
    simp only
    rw [hCS.1.1, if_neg (by rw [nLe (by omega) (by omega)]; omega), isE_b ok hCS.1 hst hj, bd_e]
    unfold bmB
    cases hb : echB c st j with
    | false => exact ⟨_, S, by rw [if_pos (show flI false = 0 from rfl), a1]; rfl, rfl, q, w, w2, w3⟩
    | true =>
      obtain ⟨T1, g1, g2, g3⟩ := lays_m ok hCS.1 (by omega) (by omega) (by omega) hst hj (echB_o hb)
      have t2 : ∀ i, gI T1 138 i = gI T 138 i := fun i => (g2.1 138 i (by omega) (by omega) (by omega)).trans (w2 i)
      have t3 : ∀ i, gI T1 143 i = gI T 143 i := fun i => (g2.1 143 i (by omega) (by omega) (by omega)).trans (w3 i)
      rw [if_neg (show ¬ flI true = 0 by decide), g1, bd_e]
      obtain ⟨T2, u1, u2⟩ := turn_m (tx := tx) (wx := wx) ok (hCS.q g2.q) g3 (pth_ok ok hst hj) hL (fun i hi => (t2 i).trans (ht i hi)) (fun i hi => (t3 i).trans (hw i hi)) (nI LL.length) (nI st) (nI j) (fun v16 S17 => (if v16.1 = 0 then f_X11_becomes_255 (nI L) (nI LL.length) (nI st) (nI j) v16.1 k e S17 else (if nI LL.length = 0 then bd (f_X11_enters (nI st).toInt64 S17) (fun r18 S19 => bd (f_X11_enters (nI j).toInt64 S19) (fun r21 S22 => f_X11_becomes_255 (nI L) (nI LL.length) (nI st) (nI j) v16.1 k e S22)) else f_X11_becomes_255 (nI L) (nI LL.length) (nI st) (nI j) v16.1 k e S17)))
      have t4 : ∀ i, gI T2 138 i = gI T 138 i := fun i => (u2.1 138 i rfl).trans (t2 i)
      have t5 : ∀ i, gI T2 143 i = gI T 143 i := fun i => (u2.1 143 i rfl).trans (t3 i)
      cases hb2 : trB c r L tx wx (pth c st j) with
      | false =>
        refine ⟨_, T2, ?_, rfl, (q.tr g2.q).tr u2.j.q, (w.e g2).o u2.j, t4, t5⟩
        refine u1.trans ?_
        rw [hb2]
        simp only
        rw [if_pos (show flI false = 0 from rfl)]
        unfold f_X11_becomes_255 f_X11_becomes_263
        rw [flg_flI, bd_e, lt_e, a1, flI_f, z00, Int32.add_zero]
        rfl
      | true =>
        obtain ⟨T3, p1', p2, p3, p4⟩ := entF (by omega) ((w.e g2).o u2.j) st j (fun S11 => f_X11_becomes_255 (nI L) (nI LL.length) (nI st) (nI j) (flI true) k e S11)
        refine ⟨_, T3, ?_, rfl, ((q.tr g2.q).tr u2.j.q).tr p2, p3, fun i => (p4 138 i (by omega)).trans (t4 i), fun i => (p4 143 i (by omega)).trans (t5 i)⟩
        refine u1.trans ?_
        rw [hb2]
        simp only
        rw [if_neg (show ¬ flI true = 0 by decide)]
        refine p1'.trans ?_
        unfold f_X11_becomes_255 f_X11_becomes_263
        rw [flg_flI, bd_e, lt_e, show (true && true) = true from rfl, if_pos rfl, List.length_append, flI_t]
        simp only [a1, nAdd, List.length_singleton]
  · obtain ⟨rfl, q, w, w2, w3⟩ := hI
    refine ⟨S, ?_, q, w, w2, w3⟩
    unfold f_X11_becomes_139b
    rw [(h.q q).1.1, if_pos (by rw [nLe (by omega) (by omega)]; omega)]
theorem takes_m {T : St} {a t : Nat} (ha : gI T 122 11 = nI a) (ht : gI T 122 12 = nI t) (h80 : t ≤ 80) (h : a ≤ t) (s : Int32) : f_X11_takes s T = if a < t ∧ gI T 128 a = s then some (nI 1, sI T 122 11 (nI (a + 1))) else some (nI 0, sI T 122 11 (nI a)) := by
  unfold f_X11_takes f_X11_takes_28 f_X11_takes_29
  rw [ha, ht]
  by_cases g : a < t
  · rw [if_neg (by rw [nLe (by omega) (by omega)]; omega), if_pos (show inb (nI a) 80 by rw [inb_nI (by omega)]; omega), nI_t (by omega)]
    by_cases g2 : gI T 128 a = s
    · rw [if_pos g2, if_pos ⟨g, g2⟩, show f_X11_flag 1 T = some (1, T) from rfl, bd_e, lt_e, a1, if_pos (Or.inr rfl)]; rfl
    · rw [if_neg g2, if_neg (fun h => g2 h.2), show f_X11_flag 0 T = some (0, T) from rfl, bd_e, lt_e, Int32.add_zero, if_pos (Or.inl rfl)]; rfl
  · rw [if_pos (by rw [nLe (by omega) (by omega)]; omega), if_neg (fun h => g h.1), show f_X11_flag 0 T = some (0, T) from rfl, bd_e, lt_e, Int32.add_zero, if_pos (Or.inl rfl)]; rfl
theorem ldN_eq {p q : Nat → Bool} {n : Nat} (h : ∀ i, i < n → p i = q i) : ldN p n = ldN q n := by
  unfold ldN
  congr 1
  apply lst_eq
  intro i
  constructor
  · rintro ⟨a, b⟩
    rw [h i a] at b
    exact ⟨a, b⟩
  · rintro ⟨a, b⟩
    rw [h i a]
    exact ⟨a, b⟩
theorem bmo_c {S T : St} {c : Cv} {o : Nat} {r : Rl} {L : Nat} {tx wx : Nat → Int32} (ok : Cok c) (h : CX T c o r) (hL : L ≤ 6) (ht : ∀ i, i < L → gI T 2 i - 97 = tx i) (hw : ∀ i, i < L → gI T 2 (L + 1 + i) - 97 = wx i) (hQ : QC S T) (hr : RwC T []) (N : Nat) (hN : N = 8) : AC (lp (f_X10_becomes_47b (nI L) (fun v20 S21 => some (v20.1, S21))) FU (0, 0) T) S (nI (prO (bmB c r L tx wx) (cm c) N).length) (some (prR (prO (bmB c r L tx wx) (cm c) N))) := by
  have h0 := lp_ex (body := f_X10_becomes_47b (nI L) (fun v20 S21 => some (v20.1, S21))) (Q := fun w => AC w S (nI (prO (bmB c r L tx wx) (cm c) N).length) (some (prR (prO (bmB c r L tx wx) (cm c) N)))) N (fun i v T2 => v = (nI (prO (bmB c r L tx wx) (cm c) i).length, nI i) ∧ QC T T2 ∧ RwC T2 (prR (prO (bmB c r L tx wx) (cm c) i)) ∧ ∀ i, gI T2 2 i = gI T 2 i) (fun i k v T2 hi hI => ?_) (fun k v T2 hI => ?_) FU 0 ((0 : Int32), (0 : Int32)) T (by omega) (by unfold FU; omega) ⟨rfl, Sm.rf T, hr, fun _ => rfl⟩
  · exact h0
  · obtain ⟨rfl, w1, w2, w3⟩ := hI
    have es : prO (bmB c r L tx wx) (cm c) (i + 1) = prI (bmB c r L tx wx) i (prO (bmB c r L tx wx) (cm c) i) (cm c) := rfl
    rw [es]
    generalize prO (bmB c r L tx wx) (cm c) i = LL at w2
    obtain ⟨T3, t1, t2, t3, t4⟩ := bmi_c (S := S) (tx := tx) (wx := wx) ok (h.q w1) hL (fun i hi => by rw [w3]; exact ht i hi) (fun i hi => by rw [w3]; exact hw i hi) w2 (show i ≤ 7 by omega) (fun v10 S11 => k (v10.1, (nI i + (1 : Int32))) S11)
    refine ⟨_, T3, ?_, rfl, w1.tr t2, t3, fun i => (t4 i).trans (w3 i)⟩
    unfold f_X10_becomes_47b
    simp only
    rw [if_neg (nLe8 (by omega))]
    refine t1.trans ?_
    simp only [a1]
  · obtain ⟨rfl, w1, w2, w3⟩ := hI
    refine AC.y (S1 := T2) ?_ (hQ.tr w1) w2
    unfold f_X10_becomes_47b
    rw [if_pos (show (8 : Int32) ≤ nI N by rw [hN]; decide)]
theorem bmo_m {S T : St} {c : Cv} {r : Rl} {L : Nat} {tx wx : Nat → Int32} (ok : Cok c) (h : MX T c r) (hL : L ≤ 6) (ht : ∀ i, i < L → gI T 138 i = tx i) (hw : ∀ i, i < L → gI T 143 i = wx i) (hQ : QM S T) (hr : RwM T []) (N : Nat) (hN : N = 8) : AM (lp (f_X11_becomes_129b (nI L) (fun v20 S21 => some (v20.1, S21))) FU (0, 0) T) S (nI (prO (bmB c r L tx wx) (cm c) N).length) (some (prR (prO (bmB c r L tx wx) (cm c) N))) := by
  have h12 := ok12 ok
  have h0 := lp_ex (body := f_X11_becomes_129b (nI L) (fun v20 S21 => some (v20.1, S21))) (Q := fun w => AM w S (nI (prO (bmB c r L tx wx) (cm c) N).length) (some (prR (prO (bmB c r L tx wx) (cm c) N)))) N (fun i v T2 => v = (nI (prO (bmB c r L tx wx) (cm c) i).length, nI i) ∧ QM T T2 ∧ RwM T2 (prR (prO (bmB c r L tx wx) (cm c) i)) ∧ (∀ i, gI T2 138 i = gI T 138 i) ∧ ∀ i, gI T2 143 i = gI T 143 i) (fun i k v T2 hi hI => ?_) (fun k v T2 hI => ?_) FU 0 ((0 : Int32), (0 : Int32)) T (by omega) (by unfold FU; omega) ⟨rfl, Sm.rf T, hr, fun _ => rfl, fun _ => rfl⟩
  · exact h0
  · obtain ⟨rfl, w1, w2, w3, w4⟩ := hI
    have es : prO (bmB c r L tx wx) (cm c) (i + 1) = prI (bmB c r L tx wx) i (prO (bmB c r L tx wx) (cm c) i) (cm c) := rfl
    have bl := prO_l (bmB c r L tx wx) (cm c) i
    have bl2 : cm c * i ≤ 12 * 8 := Nat.mul_le_mul h12 (by omega)
    rw [es]
    generalize prO (bmB c r L tx wx) (cm c) i = LL at w2 bl
    obtain ⟨T3, t1, t2, t3, t4, t5⟩ := bmi_m (tx := tx) (wx := wx) ok (h.q w1) hL (fun i hi => (w3 i).trans (ht i hi)) (fun i hi => (w4 i).trans (hw i hi)) w2 (by omega) (show i ≤ 7 by omega) (fun v10 S11 => k (v10.1, (nI i + (1 : Int32))) S11)
    refine ⟨_, T3, ?_, rfl, w1.tr t2, t3, fun i => (t4 i).trans (w3 i), fun i => (t5 i).trans (w4 i)⟩
    unfold f_X11_becomes_129b
    simp only
    rw [if_neg (nLe8 (by omega))]
    refine t1.trans ?_
    simp only [a1]
  · obtain ⟨rfl, w1, w2, w3, w4⟩ := hI
    refine AM.y (S1 := T2) ?_ (hQ.tr w1) w2
    unfold f_X11_becomes_129b
    rw [if_pos (show (8 : Int32) ≤ nI N by rw [hN]; decide)]
theorem fault35 {T : St} {L a : Nat} (hL : L ≤ 6) (ha : gI T 122 11 = nI a) : f_X11_becomes_35 (nI L) 0 T = some (-1 - nI a, T) := by
  unfold f_X11_becomes_35
  have l1 : ∀ e, lp (f_X11_becomes_38b (nI L) e) FU (0, 0) T = f_X11_becomes_38b (nI L) e (lp (f_X11_becomes_38b (nI L) e) 4999) (0, 0) T := fun e => rfl
  rw [l1]
  unfold f_X11_becomes_38b
  by_cases g : nI L ≤ 0
  · rw [if_pos (show nI L ≤ ((0 : Int32), (0 : Int32)).2 from g)]
    show (if (0 : Int32) = 0 then f_X11_becomes_112 T else _) = _
    rw [if_pos rfl]; unfold f_X11_becomes_112; rw [ha]
  · rw [if_neg (show ¬ nI L ≤ ((0 : Int32), (0 : Int32)).2 from g), if_pos (show ((0 : Int32), (0 : Int32)).1 = 0 from rfl)]
    show (if (0 : Int32) = 0 then f_X11_becomes_112 T else _) = _
    rw [if_pos rfl]; unfold f_X11_becomes_112; rw [ha]
set_option maxRecDepth 16384 in
theorem eq_becomes : EQ1 RelP f_X10_becomes f_X11_becomes := by
  apply qrT
  intro S c o r n hS ok hC hM hn hT hR
  obtain ⟨N, hN⟩ : ∃ N, N = 8 := ⟨8, rfl⟩
  obtain ⟨c1, c2, c3⟩ := pair_c hn hT
  have hL : pL (gI S 2) n ≤ 6 := Nat.min_le_right _ _
  have hL2 : pL2 (gI S 2) n ≤ pL (gI S 2) n := Nat.min_le_right _ _
  have hLn : pL (gI S 2) n ≤ n := Nat.le_trans (Nat.min_le_left _ _) (ld_a (fun i => ltB (gI S 2 i)) n).1
  -- the reference up to the first word
  have mod : ∀ S1, MX S1 c r → gI S1 122 10 = nI n → (∀ i, i < n → gI S1 128 i = gI S 2 i) → ∃ T2, QM (sI S1 122 10 0) T2 ∧ gI T2 122 1 = gI S1 122 1 ∧ (∀ k, gL T2 123 k = gL S1 123 k) ∧ gI T2 122 11 = nI (pL (gI S 2) n) ∧ gI T2 122 12 = nI n ∧ (∀ j, j < pL (gI S 2) n → gI T2 138 j = gI S 2 j - 97) ∧ (∀ i, i < n → gI T2 128 i = gI S 2 i) ∧ f_X11_becomes S1 = (if nI (pL (gI S 2) n) ≤ 0 then f_X11_becomes_34 (nI (pL (gI S 2) n)) T2 else bd (f_X11_takes (59 : Int32) T2) (fun r48 S49 => (if r48 = 0 then f_X11_becomes_34 (nI (pL (gI S 2) n)) S49 else f_X11_becomes_35 (nI (pL (gI S 2) n)) (1 : Int32) S49))) := by
    intro S1 hM1 e10 et
    have eto : mnI (gI (sI S1 122 0 0) 122 10) 80 = nI n := by show mnI (gI S1 122 10) 80 = nI n; rw [e10, oj80 hn]
    obtain ⟨T2, t1, t2, t3, t4⟩ := letters_m (T := bgS (sI S1 122 0 0) (mnI (gI (sI S1 122 0 0) 122 10) 80)) (a := 0) (t := n) rfl eto hn (by omega)
    have eL : ldN (fun i => ltB (gI (bgS (sI S1 122 0 0) (mnI (gI (sI S1 122 0 0) 122 10) 80)) 128 (0 + i))) (n - 0) = ldN (fun i => ltB (gI S 2 i)) n := by
      rw [Nat.sub_zero]
      apply ldN_eq
      intro i hi
      rw [Nat.zero_add]
      show ltB (gI S1 128 i) = _
      rw [et i hi]
    rw [eL] at t1 t2 t3
    have q0 : QM (sI S1 122 10 0) (bgS (sI S1 122 0 0) (mnI (gI (sI S1 122 0 0) 122 10) 80)) := by
      have : QM (sI S1 122 10 0) (sI (sI S1 122 0 0) 122 10 0) := smcg (q00 S1 0) 122 10 0
      exact this.tr ((((Sm.rf _).sI rfl).sI rfl).sI rfl)
    have q4 : QM (bgS (sI S1 122 0 0) (mnI (gI (sI S1 122 0 0) 122 10) 80)) T2 := by
      refine ⟨fun a b hab => t4.1 a b ?_, fun a b _ => t4.2 a b rfl⟩
      have e1 : a ≠ 138 := by intro e; subst e; cases hab
      by_cases e2 : a = 122
      · have e3 : b ≠ 11 := by intro e; subst e; subst e2; cases hab
        simp [e1, e3]
      · simp [e1, e2]
    refine ⟨T2, q0.tr q4, t4.1 122 1 rfl, fun k => t4.2 123 k rfl, ?_, (t4.1 122 12 rfl).trans eto, fun j hj => ?_, fun i hi => (t4.1 128 i rfl).trans (et i hi), ?_⟩
    · rw [t2, Nat.zero_add]; rfl
    · rw [t3 j hj, Nat.zero_add]
      show gI S1 128 j - 97 = _
      rw [et j (by omega)]
    · unfold f_X11_becomes
      rw [lt_e, begins_m, bd_e, t1, bd_e]
      rfl
  by_cases ho : pOk (gI S 2) n
  · obtain ⟨o1, o2, o3⟩ := id ho
    -- the reference over the second word
    have mod2 : ∀ S1, MX S1 c r → gI S1 122 10 = nI n → (∀ i, i < n → gI S1 128 i = gI S 2 i) → ∃ T3, QM (sI S1 122 10 0) T3 ∧ gI T3 122 1 = gI S1 122 1 ∧ (∀ k, gL T3 123 k = gL S1 123 k) ∧ gI T3 122 11 = nI (pL (gI S 2) n + 1 + pL2 (gI S 2) n) ∧ gI T3 122 12 = nI n ∧ (∀ j, j < pL (gI S 2) n → gI T3 138 j = gI S 2 j - 97) ∧ (∀ j, j < pL2 (gI S 2) n → gI T3 143 j = gI S 2 (pL (gI S 2) n + 1 + j) - 97) ∧ f_X11_becomes S1 = (if flI (decide (pL (gI S 2) n ≤ pL2 (gI S 2) n)) = 0 then f_X11_becomes_112 T3 else (if (gI T3 122 12) ≤ (gI T3 122 11) then lt (sI T3 122 1 (0 : Int32)) (fun S38 => lp (f_X11_becomes_129b (nI (pL (gI S 2) n)) (fun v39 S40 => some (v39.1, S40))) FU ((0 : Int32), (0 : Int32)) S38) else f_X11_becomes_112 T3)) := by
      intro S1 hM1 e10 et
      obtain ⟨T2, m1', m2, m3, m4, m5, m6, m7, m8⟩ := mod S1 hM1 e10 et
      obtain ⟨T3, w1, w2, w3, w4, w5⟩ := word_m (T := sI T2 122 11 (nI (pL (gI S 2) n + 1))) (a := pL (gI S 2) n + 1) (t := n) rfl m5 hn (by omega) hL (fun v36 S37 => (if v36.1 = 0 then f_X11_becomes_112  S37 else (if (gI S37 122 12) ≤ (gI S37 122 11) then lt (sI S37 122 1 (0 : Int32)) (fun S38 => lp (f_X11_becomes_129b (nI (pL (gI S 2) n)) (fun v39 S40 => some (v39.1, S40))) FU ((0 : Int32), (0 : Int32)) S38) else f_X11_becomes_112  S37))) (fun _ _ _ _ => rfl)
      have eD : ldN (fun i => ltB (gI (sI T2 122 11 (nI (pL (gI S 2) n + 1))) 128 (pL (gI S 2) n + 1 + i))) (n - (pL (gI S 2) n + 1)) = ldN (fun i => ltB (gI S 2 (pL (gI S 2) n + 1 + i))) (n - (pL (gI S 2) n + 1)) := by
        apply ldN_eq
        intro i hi
        show ltB (gI T2 128 _) = _
        rw [m7 _ (by omega)]
      rw [eD] at w1 w2 w3
      have hD := (ld_a (fun i => ltB (gI S 2 (pL (gI S 2) n + 1 + i))) (n - (pL (gI S 2) n + 1))).1
      have hD2 : pL2 (gI S 2) n ≤ n - (pL (gI S 2) n + 1) := Nat.le_trans (Nat.min_le_left _ _) hD
      have qW : QM T2 T3 := ((Sm.rf T2).sI rfl).tr w4.q
      refine ⟨T3, m1'.tr qW, (w4.1 122 1 rfl).trans m2, fun k => (w4.2 123 k rfl).trans (m3 k), w2, (w4.1 122 12 rfl).trans m5, fun j hj => (w5 j).trans (m6 j hj), fun j hj => ?_, ?_⟩
      · rw [w3 j hj]
        show gI T2 128 _ - 97 = _
        rw [m7 _ (by omega)]
      · rw [m8, if_neg (show ¬ nI (pL (gI S 2) n) ≤ 0 by rw [lit, nLe (by omega) (by omega)]; omega), takes_m m4 m5 hn (by omega), if_pos ⟨o2, by rw [m7 _ o2]; exact o3⟩, bd_e, if_neg (show ¬ nI 1 = 0 by decide)]
        exact w1
    by_cases hf : pFn (gI S 2) n
    · obtain ⟨_, f2, f3⟩ := id hf
      have hD := (ld_a (fun i => ltB (gI S 2 (pL (gI S 2) n + 1 + i))) (n - (pL (gI S 2) n + 1))).1
      have hD2 : pL2 (gI S 2) n ≤ n - (pL (gI S 2) n + 1) := Nat.le_trans (Nat.min_le_left _ _) hD
      have hn2 : n = 2 * pL (gI S 2) n + 1 := by omega
      refine ⟨nI (prO (bmB c r (pL (gI S 2) n) (fun i => gI S 2 i - 97) (fun i => gI S 2 (pL (gI S 2) n + 1 + i) - 97)) (cm c) N).length, some (prR (prO (bmB c r (pL (gI S 2) n) (fun i => gI S 2 i - 97) (fun i => gI S 2 (pL (gI S 2) n + 1 + i) - 97)) (cm c) N)), (fun l e => by cases e; have := prR_l (prO (bmB c r (pL (gI S 2) n) (fun i => gI S 2 i - 97) (fun i => gI S 2 (pL (gI S 2) n + 1 + i) - 97)) (cm c) N); omega), ?_, fun S1 hM1 q1 e10 et => ?_⟩
      · unfold f_X10_becomes
        rw [c1 hf, bd_e, hT, show nI n / 2 = nI (pL (gI S 2) n) by rw [show (2 : Int32) = nI 2 from rfl, nDiv (by omega) (by omega)]; congr 1; omega, lt_e, lt_e, if_pos rfl, begin_e, bd_e]
        exact bmo_c ok ((hC.s 0).q (q10 _ 0)) hL (fun i _ => rfl) (fun i _ => rfl) (q10 _ 0) (RwC.nil _) N hN
      · obtain ⟨T3, m1', m2, m3, m4, m5, m6, m7, m8⟩ := mod2 S1 hM1 e10 et
        have hM3 : MX T3 c r := by
          have : MX (sI S1 122 10 0) c r := ⟨hM1.1, hM1.2⟩
          exact this.q m1'
        rw [m8, decide_eq_true (by omega), if_neg (show ¬ flI true = 0 by decide), m4, m5, if_pos (by rw [nLe (by omega) (by omega)]; omega), lt_e]
        exact bmo_m ok (hM3.q (q01 T3 0)) hL (fun i hi => m6 i hi) (fun i hi => m7 i (by omega)) (m1'.tr (q01 T3 0)) (RwM.nil T3) N hN
    · refine ⟨-1 - nI (pL (gI S 2) n + 1 + pL2 (gI S 2) n), none, (fun l e => by cases e), ?_, fun S1 hM1 q1 e10 et => ?_⟩
      · refine AC.n (S1 := sI S 1 1 0) ?_ (Sm.rf _)
        unfold f_X10_becomes
        rw [c2 ho hf, bd_e, lt_e, lt_e, if_neg (nne (by omega))]
      · obtain ⟨T3, m1', m2, m3, m4, m5, m6, m7, m8⟩ := mod2 S1 hM1 e10 et
        refine AM.n (S1 := T3) ?_ m1' m2 m3
        rw [m8]
        unfold f_X11_becomes_112
        by_cases g : pL (gI S 2) n ≤ pL2 (gI S 2) n
        · rw [decide_eq_true g, if_neg (show ¬ flI true = 0 by decide), m4, m5, if_neg (by
            rw [nLe (by omega) (by omega)]
            intro q
            exact hf ⟨ho, by omega, by omega⟩)]
        · rw [decide_eq_false g, if_pos (show flI false = 0 from rfl), m4]
  · refine ⟨-1 - nI (pL (gI S 2) n), none, (fun l e => by cases e), ?_, fun S1 hM1 q1 e10 et => ?_⟩
    · refine AC.n (S1 := sI S 1 1 0) ?_ (Sm.rf _)
      unfold f_X10_becomes
      rw [c3 ho, bd_e, lt_e, lt_e, if_neg (nne (by omega))]
    · obtain ⟨T2, m1', m2, m3, m4, m5, m6, m7, m8⟩ := mod S1 hM1 e10 et
      by_cases g : pL (gI S 2) n = 0
      · refine AM.n (S1 := T2) ?_ m1' m2 m3
        rw [m8, if_pos (show nI (pL (gI S 2) n) ≤ 0 by rw [g]; decide)]
        unfold f_X11_becomes_34
        exact fault35 hL m4
      · refine AM.n (S1 := sI T2 122 11 (nI (pL (gI S 2) n))) ?_ (m1'.sI rfl) m2 m3
        rw [m8, if_neg (show ¬ nI (pL (gI S 2) n) ≤ 0 by rw [lit, nLe (by omega) (by omega)]; omega), takes_m m4 m5 hn hLn, if_neg (by
          rintro ⟨g1, g2⟩
          rw [m7 _ g1] at g2
          exact ho ⟨g, g1, g2⟩), bd_e, if_pos z00]
        unfold f_X11_becomes_34
        exact fault35 hL rfl
