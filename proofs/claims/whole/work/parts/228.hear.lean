/-! questions with a call -/
theorem AC.tr {w : Option (Int32 × St)} {S T : St} {v : Int32} {l : List Int64} (h : AC w T v (some l)) (q : QC S T) : AC w S v (some l) := by
  obtain ⟨S1, h1, h2, h3, h4⟩ := h
  exact ⟨S1, h1, q.tr h2, h3, fun e => by cases e⟩
theorem AM.tr {w : Option (Int32 × St)} {S T : St} {v : Int32} {l : List Int64} (h : AM w T v (some l)) (q : QM S T) : AM w S v (some l) := by
  obtain ⟨S1, h1, h2, h3, h4⟩ := h
  exact ⟨S1, h1, q.tr h2, h3, fun e => by cases e⟩
theorem clN_le (T : St) (R n : Nat) : clN T R n ≤ n := (ld_a (fun i => ltB (gI T R i)) n).1
theorem clN_eq {T T' : St} {R R' n : Nat} (h : ∀ i, i < n → gI T R i = gI T' R' i) : clN T R n = clN T' R' n := by
  unfold clN ldN
  congr 1
  apply lst_eq
  intro i
  constructor
  · rintro ⟨a, b⟩
    dsimp only at b ⊢
    rw [h i a] at b
    exact ⟨a, b⟩
  · rintro ⟨a, b⟩
    dsimp only at b ⊢
    rw [h i a]
    exact ⟨a, b⟩
theorem neg0 {k : Nat} (h : k ≤ 6) : ¬ -1 - nI k = (0 : Int32) ∧ ¬ (0 : Int32) ≤ -1 - nI k := by
  have q : ∀ k, k ≤ 6 → ¬ -1 - nI k = (0 : Int32) ∧ ¬ (0 : Int32) ≤ -1 - nI k := by decide
  exact q k h
theorem CX.s {T : St} {c : Cv} {o : Nat} {r : Rl} (h : CX T c o r) (v : Int32) : CX (sI T 1 1 v) c o r := by
  obtain ⟨h1, ⟨b1, b2, b3, b4, b5⟩, h3⟩ := h
  refine ⟨h1, ⟨b1, b2, ?_, fun i hi => ?_, b5⟩, h3⟩
  · rw [gI_s, if_neg (by omega)]; exact b3
  · rw [gI_s, if_neg (by omega)]; exact b4 i hi
theorem clq {x y : Int32} {FC GM : Int32 → St → Option (Int32 × St)} (h : ∀ (c : Cv) (o : Nat) (r : Rl) (l : Pth) (e n : Nat) (tx : Nat → Int32), Cok c → Pok c l → 1 ≤ n → n ≤ 6 → ∃ (v : Int32) (ls : List Int64), ls.length ≤ 16 ∧ (∀ T, CX T c o r → ECs c T l e → (∀ i, i < n → gI T 2 i - 97 = tx i) → AC (FC (nI n) T) T v (some ls)) ∧ (∀ T, MX T c r → EMs c T l e → (∀ i, i < n → gI T 138 i = tx i) → RwM T [] → AM (GM (nI n) T) T v (some ls))) : EQ1 RelP (fun S => bd (f_X10_refusalOfCall x y S) (fun r8 S9 => lt (gI S9 1 1) (fun y11 => lt (sI S9 1 1 (0 : Int32)) (fun S12 => (if r8 = 0 then FC y11 S12 else some (r8, S12)))))) (fun S => lt (sI S 122 0 (0 : Int32)) (fun S13 => bd (f_X11_readsCall x y S13) (fun r14 S15 => (if 0 ≤ r14 then bd (f_X11_laysEcho 126 x y S15) (fun r17 S18 => lt (sI S18 122 1 (0 : Int32)) (fun S20 => GM r14 S20)) else some (r14, S15))))) := by
  apply qrT
  intro S c o r n hS ok hC hM hn hT hR
  obtain ⟨f1, f2⟩ := refu_c (x := x) (y := y) ok hC.1 hn hT
  by_cases he : echP c x y
  · obtain ⟨q, st, hq, hst, rfl, rfl, ho, hen⟩ := he
    have hl := pth_ok ok hst hq
    obtain ⟨T1, g1, g2, g3, g4⟩ := f2 st q rfl rfl hst hq ho hen
    have q1 : QC (sI S 1 1 0) (sI T1 1 1 0) := smcg g1.q 1 1 0
    by_cases hc : clOk (clN S 2 n) n
    · obtain ⟨v, ls, hls, hA, hB⟩ := h c o r (pth c st q) (pen c st q) n (fun i => gI S 2 i - 97) ok hl (by have := hc.2.1; have := clN_le S 2 n; omega) (by have := hc.1; have := hc.2.2; omega)
      refine ⟨v, some ls, (fun l e => by cases e; exact hls), ?_, fun S1 hM1 q2 e10 et => ?_⟩
      · rw [g3 hc, bd_e, lt_e, lt_e, if_pos rfl, g1.1 1 1 (by omega) (by omega) (by omega), hT]
        exact (hA (sI T1 1 1 0) ((hC.q g1.q).s 0) g2 (fun i hi => by rw [show gI (sI T1 1 1 0) 2 i = gI T1 2 i from rfl, g1.1 2 i (by omega) (by omega) (by omega)])).tr q1
      · have hM0 : MX (sI S1 122 0 0) c r := hM1.q (q00 S1 0)
        obtain ⟨_, r2⟩ := readsCall_m (T := sI S1 122 0 0) (x := nI st) (y := nI q) ok hM0.1 hn e10
        obtain ⟨T2, t1, t2, t3, t4, t5⟩ := r2 st q rfl rfl hst hq ho hen
        have ecl : clN (sI S1 122 0 0) 128 n = clN S 2 n := by
          apply clN_eq
          intro i hi
          exact et i hi
        rw [ecl] at t4 t5
        obtain ⟨u1, u2⟩ := t4 hc
        have qq : QM (sI S1 122 10 0) T2 := by
          have : QM (sI S1 122 10 0) (sI (sI S1 122 0 0) 122 10 0) := smcg (q00 S1 0) 122 10 0
          exact this.tr t1
        have hM2 : MX T2 c r := by
          have : MX (sI S1 122 10 0) c r := ⟨hM1.1, hM1.2⟩
          exact this.q qq
        obtain ⟨T3, w1, w2, w3⟩ := lays_m ok hM2.1 (by omega) (by omega) (by omega) hst hq ho
        rw [lt_e, u1, bd_e, if_pos (show (0 : Int32) ≤ nI n by rw [lit, nLe (by omega) (by omega)]; omega), w1, bd_e, lt_e]
        refine (hB (sI T3 122 1 0) (hM2.q (w2.q.tr (q01 T3 0))) (w3.p e01) (fun i hi => ?_) (RwM.nil T3)).tr (qq.tr (w2.q.tr (q01 T3 0)))
        rw [show gI (sI T3 122 1 0) 138 i = gI T3 138 i from rfl, w2.1 138 i (by omega) (by omega) (by omega), u2 i hi]
        rw [show gI (sI S1 122 0 0) 128 i = gI S1 128 i from rfl, et i hi]
    · refine ⟨-1 - nI (min (clN S 2 n) 6), none, (fun l e => by cases e), ?_, fun S1 hM1 q2 e10 et => ?_⟩
      · refine AC.n (S1 := sI T1 1 1 0) ?_ q1 (g1.1 10 1 (by omega) (by omega) (by omega)) (fun k => g1.2 11 k)
        rw [g4 hc, bd_e, lt_e, lt_e, if_neg (neg0 (Nat.min_le_right _ _)).1]
      · have hM0 : MX (sI S1 122 0 0) c r := hM1.q (q00 S1 0)
        obtain ⟨_, r2⟩ := readsCall_m (T := sI S1 122 0 0) (x := nI st) (y := nI q) ok hM0.1 hn e10
        obtain ⟨T2, t1, t2, t3, t4, t5⟩ := r2 st q rfl rfl hst hq ho hen
        have ecl : clN (sI S1 122 0 0) 128 n = clN S 2 n := by
          apply clN_eq
          intro i hi
          exact et i hi
        rw [ecl] at t4 t5
        have qq : QM (sI S1 122 10 0) T2 := by
          have : QM (sI S1 122 10 0) (sI (sI S1 122 0 0) 122 10 0) := smcg (q00 S1 0) 122 10 0
          exact this.tr t1
        refine AM.n (S1 := T2) ?_ qq t2 t3
        rw [lt_e, t5 hc, bd_e, if_neg (neg0 (Nat.min_le_right _ _)).2]
  · refine ⟨-100, none, (fun l e => by cases e), ?_, fun S1 hM1 q2 e10 et => ?_⟩
    · refine AC.n (S1 := sI S 1 1 0) ?_ (Sm.rf _)
      rw [f1 he, bd_e, lt_e, lt_e, if_neg (by decide)]
    · have hM0 : MX (sI S1 122 0 0) c r := hM1.q (q00 S1 0)
      obtain ⟨r1, _⟩ := readsCall_m (T := sI S1 122 0 0) (x := x) (y := y) ok hM0.1 hn e10
      obtain ⟨T2, t1, t2, t3, t4⟩ := r1 he
      have qq : QM (sI S1 122 10 0) T2 := by
        have : QM (sI S1 122 10 0) (sI (sI S1 122 0 0) 122 10 0) := smcg (q00 S1 0) 122 10 0
        exact this.tr t2
      refine AM.n (S1 := T2) ?_ qq t3 t4
      rw [lt_e, t1, bd_e, if_neg (by decide)]
/-! hears -/
def rowF (f : Nat → Int32) : Nat → List Int64
  | 0 => []
  | i + 1 => rowF f i ++ [(f i).toInt64]
theorem rowF_l (f : Nat → Int32) : ∀ n, (rowF f n).length = n := by
  intro n
  induction n with
  | zero => rfl
  | succ n ih => rw [rowF, List.length_append, ih]; rfl
theorem rowF_g (f : Nat → Int32) : ∀ n i, i < n → (rowF f n).getD i 0 = (f i).toInt64 := by
  intro n
  induction n with
  | zero => intro i h; omega
  | succ n ih =>
    intro i h
    rw [rowF, getD_ap (by rw [List.length_append, rowF_l]; exact h), rowF_l]
    by_cases e : i = n
    · rw [if_pos e, e]
    · rw [if_neg e]; exact ih i (by omega)
theorem let_c {T : St} {i : Nat} (h : i < 80) : f_X8_letter (nI i) T = some (gI T 2 i - 97, T) := by
  unfold f_X8_letter
  rw [if_neg (show ¬ nI i < 0 by rw [lit, nLt (by omega) (by omega)]; omega), if_neg (show ¬ (80 : Int32) ≤ nI i by rw [lit, nLe (by omega) (by omega)]; omega), if_pos (by rw [inb_nI (by omega)]; omega), nI_t (by omega)]
theorem cmp_eq (a b : Int32) : (lg_cmp a.toInt64 b.toInt64 = 0) = (a = b) := by
  apply propext
  have h1 := cmp_lt a.toInt64 b.toInt64
  have h2 := cmp_gt a.toInt64 b.toInt64
  rw [i64_lt] at h1 h2
  constructor
  · intro h
    rw [h] at h1 h2
    rw [i_eq]
    have g1 : ¬ a.toInt < b.toInt := fun q => absurd (h1.mpr (i_lt.mpr q)) (by decide)
    have g2 : ¬ b.toInt < a.toInt := fun q => absurd (h2.mpr (i_lt.mpr q)) (by decide)
    omega
  · rintro rfl
    unfold lg_cmp
    rw [if_neg (by rw [gt_iff_lt, Int64.lt_iff_toInt_lt]; omega), if_pos rfl]
theorem eq_hears : ∀ a1 a2 : Int32, EQ1 RelP (f_X10_hears a1 a2) (f_X11_hears a1 a2) := by
  intro x y
  refine clq (x := x) (y := y) (FC := fun y11 S12 => bd (f_X5_begin S12) (fun r13 S14 => bd (f_X10_putLetters y11 S14) (fun r16 S17 => lp (f_X10_hears_49b y11 (fun v19 S20 => some (v19.1, S20))) FU ((0 : Int32), (0 : Int32)) S17))) (GM := fun r14 S20 => lp (f_X11_hears_39b r14 (fun v21 S22 => some (v21.1, S22))) FU ((0 : Int32), (0 : Int32)) S20) ?_
  intro c o r l e n tx ok hl hn1 hn
  refine ⟨nI (cntN (fun p => decide (cmo c r (nI p) l (tx p) = tx p)) n), rowF (fun p => cmo c r (nI p) l (tx p)) n, by rw [rowF_l]; omega, fun T hC hE ht => ?_, fun T hM hE ht hw => ?_⟩
  · show AC (bd (f_X5_begin T) _) _ _ _
    rw [begin_e, bd_e]
    obtain ⟨T1, g1, g2, g3, g4⟩ : ∃ T1, f_X10_putLetters (nI n) (sI T 10 1 0) = some ((), T1) ∧ QC T T1 ∧ RwC T1 (rowF (fun p => cmo c r (nI p) l (tx p)) n) ∧ ∀ i, gI T1 2 i = gI T 2 i := by
      refine lp_ex (body := f_X10_putLetters_2b (nI n) (fun v11 S12 => some ((), S12))) (Q := fun w => ∃ T1, w = some ((), T1) ∧ QC T T1 ∧ RwC T1 (rowF (fun p => cmo c r (nI p) l (tx p)) n) ∧ ∀ i, gI T1 2 i = gI T 2 i) n (fun i v S => v = nI i ∧ QC T S ∧ ECs c S l e ∧ RwC S (rowF (fun p => cmo c r (nI p) l (tx p)) i) ∧ ∀ i, gI S 2 i = gI T 2 i) (fun i k v S hi hI => ?_) (fun k v S hI => ?_) FU 0 _ _ (by omega) (by unfold FU; omega) ⟨rfl, q10 T 0, hE.p e10, RwC.nil T, fun _ => rfl⟩
      · obtain ⟨rfl, w1, w2, w3, w4⟩ := hI
        have hCS := hC.q w1
        obtain ⟨T2, s1, s2⟩ := cmo_c ok hCS.1 hCS.2.1 w2 hl (tx i) (nI i)
        obtain ⟨T3, t1, t2, t3, t4⟩ := put_e (cmo c r (nI i) l (tx i)).toInt64 (w3.o s2.j) (by rw [rowF_l]; omega)
        refine ⟨_, T3, ?_, rfl, (w1.tr s2.j.q).tr t2, (w2.o s2.j).p t4, t3, fun j => ?_⟩
        · unfold f_X10_putLetters_2b
          rw [if_neg (by rw [nLe (by omega) (by omega)]; omega), if_pos (isRl hCS).1, (isRl hCS).2, let_c (by omega), bd_e, w4, ht i hi, s1, bd_e, t1, bd_e, a1]
        · rw [t4 2 j (by omega), s2.1 2 j rfl, w4]
      · obtain ⟨rfl, w1, w2, w3, w4⟩ := hI
        unfold f_X10_putLetters_2b
        rw [if_pos (by rw [nLe (by omega) (by omega)]; omega)]
        exact ⟨S, rfl, w1, w3, w4⟩
    rw [g1, bd_e]
    refine AC.y (S1 := T1) ?_ g2 g3
    refine lp_for (body := f_X10_hears_49b (nI n) (fun v19 S20 => some (v19.1, S20))) n (fun i => ((nI (cntN (fun p => decide (cmo c r (nI p) l (tx p) = tx p)) i), nI i), T1)) (out := some (nI (cntN (fun p => decide (cmo c r (nI p) l (tx p) = tx p)) n), T1)) (fun i k hi => ?_) (fun k => ?_) FU 0 (by omega) (by unfold FU; omega)
    · unfold f_X10_hears_49b f_X10_hears_86
      simp only
      have ea : f_X5_at (nI i) T1 = some ((cmo c r (nI i) l (tx i)).toInt64, T1) := by
        unfold f_X5_at
        have := g3.1
        rw [rowF_l] at this
        rw [if_neg (show ¬ nI i < 0 by rw [lit, nLt (by omega) (by omega)]; omega), this, if_neg (by rw [nLe (by omega) (by omega)]; omega), if_pos (by rw [inb_nI (by omega)]; omega), nI_t (by omega), g3.2 i (by rw [rowF_l]; exact hi), rowF_g _ _ _ hi]
      rw [if_neg (by rw [nLe (by omega) (by omega)]; omega), ea, bd_e, let_c (by omega), bd_e, g4, ht i hi, cntN]
      simp only [cmp_eq]
      by_cases g : cmo c r (nI i) l (tx i) = tx i
      · rw [if_pos g, if_pos (decide_eq_true g), lt_e]; simp only [a1]
      · rw [if_neg g, if_neg (by rw [decide_eq_false g]; simp), lt_e]; simp only [a1, Int32.add_zero, Nat.add_zero]
    · unfold f_X10_hears_49b
      simp only
      rw [if_pos (by rw [nLe (by omega) (by omega)]; omega)]
  · show AM (lp (f_X11_hears_39b (nI n) _) FU (0, 0) T) _ _ _
    refine lp_ex (body := f_X11_hears_39b (nI n) _) (Q := fun w => AM w T (nI (cntN (fun p => decide (cmo c r (nI p) l (tx p) = tx p)) n)) (some (rowF (fun p => cmo c r (nI p) l (tx p)) n))) n (fun i v S => v = (nI (cntN (fun p => decide (cmo c r (nI p) l (tx p) = tx p)) i), nI i) ∧ QM T S ∧ EMs c S l e ∧ RwM S (rowF (fun p => cmo c r (nI p) l (tx p)) i) ∧ ∀ i, gI S 138 i = gI T 138 i) (fun i k v S hi hI => ?_) (fun k v S hI => ?_) FU 0 _ _ (by omega) (by unfold FU; omega) ⟨rfl, Sm.rf T, hE, hw, fun _ => rfl⟩
    · obtain ⟨rfl, w1, w2, w3, w4⟩ := hI
      have hCS := hM.q w1
      obtain ⟨T2, s1, s2⟩ := cmo_m ok hCS.1 (by omega) (by omega) (by omega) hCS.2 w2 hl (tx i) (nI i)
      obtain ⟨T3, t1, t2, t3, t4⟩ := ent_e (cmo c r (nI i) l (tx i)).toInt64 (w3.o s2.j) (by rw [rowF_l]; omega)
      refine ⟨_, T3, ?_, rfl, (w1.tr s2.j.q).tr t2, (w2.o s2.j).p t4, t3, fun j => ?_⟩
      · unfold f_X11_hears_39b f_X11_hears_83
        simp only
        rw [if_neg (by rw [nLe (by omega) (by omega)]; omega)]
        simp only [if_pos (show inb (nI i) 6 by rw [inb_nI (by omega)]; omega), nI_t (show i < 2147483648 by omega)]
        rw [w4, ht i hi, s1, bd_e, s2.1 138 i rfl, w4, ht i hi, cntN]
        by_cases g : cmo c r (nI i) l (tx i) = tx i
        · rw [if_pos g, if_pos (decide_eq_true g), show f_X11_flag 1 T2 = some (1, T2) from rfl, bd_e, lt_e, a1, a1, t1, bd_e]
        · rw [if_neg g, if_neg (by rw [decide_eq_false g]; simp), show f_X11_flag 0 T2 = some (0, T2) from rfl, bd_e, lt_e, t1, bd_e]; simp only [a1, Int32.add_zero, Nat.add_zero]
      · rw [t4 138 j (by omega), s2.1 138 j rfl, w4]
    · obtain ⟨rfl, w1, w2, w3, w4⟩ := hI
      refine AM.y (S1 := S) ?_ w1 w3
      unfold f_X11_hears_39b
      simp only
      rw [if_pos (by rw [nLe (by omega) (by omega)]; omega)]
/-! asks -/
def axB (c : Cv) (r : Rl) (l : Pth) (p : Nat) (w : Int32) (v : Nat) : Bool := decide (cmo c r (nI p) l (nI v) = w)
def axA (c : Cv) (r : Rl) (l : Pth) (tx : Nat → Int32) : Nat → Int32
  | 0 => 1
  | p + 1 => axA c r l tx p * nI (cntN (axB c r l p (tx p)) 8)
def axF (c : Cv) (r : Rl) (l : Pth) (tx : Nat → Int32) (p : Nat) : Int32 := optI (lstF (axB c r l p (tx p)) 8)
theorem times_c {T : St} {w : Int32} {b : Nat → Bool} (hb : ∀ v, v < 8 → (gI T 120 v = w ↔ b v = true)) : f_X10_timesAmongImages w T = some (nI (cntN b 8), T) := by
  refine lp_for (body := f_X10_timesAmongImages_4b w (fun v3 S4 => some (v3.1, S4))) 8 (fun i => ((nI (cntN b i), nI i), T)) (out := some (nI (cntN b 8), T)) (fun i k hi => ?_) (fun k => ?_) FU 0 (by omega) (by unfold FU; omega)
  · unfold f_X10_timesAmongImages_4b f_X10_timesAmongImages_26
    simp only
    rw [if_neg (nLe8 hi), if_pos (by rw [inb_nI (by omega)]; omega), nI_t (by omega), cntN]
    by_cases g : gI T 120 i = w
    · rw [if_pos g, if_pos ((hb i hi).mp g), lt_e]; simp only [a1]
    · rw [if_neg g, if_neg (fun h => g ((hb i hi).mpr h)), lt_e]; simp only [a1, Int32.add_zero, Nat.add_zero]
  · unfold f_X10_timesAmongImages_4b
    simp only
    rw [if_pos (show (8 : Int32) ≤ nI 8 by decide)]
theorem first_c {T : St} {w : Int32} {b : Nat → Bool} (hb : ∀ v, v < 8 → (gI T 120 v = w ↔ b v = true)) : f_X10_firstImage w T = some (optI (lstF b 8), T) := by
  cases e : lstF b 8 with
  | none =>
    have hn := lst_none e
    refine lp_for (body := f_X10_firstImage_2b w (fun v2 S3 => some ((-1 : Int32), S3))) 8 (fun i => (nI i, T)) (out := some (optI none, T)) (fun i k hi => ?_) (fun k => ?_) FU 0 (by omega) (by unfold FU; omega)
    · unfold f_X10_firstImage_2b
      simp only
      rw [if_neg (nLe8 hi), if_pos (by rw [inb_nI (by omega)]; omega), nI_t (by omega), if_neg (fun h => by have := (hb i hi).mp h; rw [hn i hi] at this; cases this), a1]
    · unfold f_X10_firstImage_2b
      simp only
      rw [if_pos (show (8 : Int32) ≤ nI 8 by decide)]; rfl
  | some j =>
    obtain ⟨h1, h2, h3⟩ := lst_some e
    refine lp_for (body := f_X10_firstImage_2b w (fun v2 S3 => some ((-1 : Int32), S3))) j (fun i => (nI i, T)) (out := some (optI (some j), T)) (fun i k hi => ?_) (fun k => ?_) FU 0 (by omega) (by unfold FU; omega)
    · unfold f_X10_firstImage_2b
      simp only
      rw [if_neg (nLe8 (by omega)), if_pos (by rw [inb_nI (by omega)]; omega), nI_t (by omega), if_neg (fun h => by have := (hb i (by omega)).mp h; rw [h3 i hi] at this; cases this), a1]
    · unfold f_X10_firstImage_2b
      simp only
      rw [if_neg (nLe8 h1), if_pos (by rw [inb_nI (by omega)]; omega), nI_t (by omega), if_pos ((hb j h1).mpr h2)]; rfl
/-- count from above -/
def cntD (b : Nat → Bool) (i : Nat) : Nat := cntN (fun j => b (7 - j)) i
theorem cntD8 (b : Nat → Bool) : cntD b 8 = cntN b 8 := by
  unfold cntD
  simp only [cntN, Nat.reduceSub]
  omega
theorem ax_m {S : St} {c : Cv} {r : Rl} {l : Pth} {e : Nat} (ok : Cok c) (h : MX S c r) (hE : EMs c S l e) (hl : Pok c l) {i : Nat} (hi : i < 6) {w : Int32} (hw : gI S 138 i = w) (x3 x4 : Int32) (e' : Int32 × Int32 × Int32 → St → Option (Int32 × St)) : ∃ T2, lp (f_X11_asks_55b x3 x4 (nI i) e') FU ((0 : Int32), (-1 : Int32), (7 : Int32)) S = e' (nI (cntN (axB c r l i w) 8), optI (lstF (axB c r l i w) 8), -1) T2 ∧ oK S T2 := by
  have h := lp_ex (body := f_X11_asks_55b x3 x4 (nI i) e') (Q := fun z => ∃ T2, z = e' (nI (cntN (axB c r l i w) 8), optI (lstF (axB c r l i w) 8), -1) T2 ∧ oK S T2) 8 (fun j v T => v = (nI (cntD (axB c r l i w) j), optI (lstF (fun u => decide (8 - j ≤ u) && axB c r l i w u) 8), nI (8 - j) - 1) ∧ oK S T) (fun j k v T hj hI => ?_) (fun k v T hI => ?_) FU 0 ((0 : Int32), (-1 : Int32), (7 : Int32)) S (by omega) (by unfold FU; omega) ⟨?_, Sm.rf S⟩
  · exact h
  · obtain ⟨rfl, q⟩ := hI
    have ej : nI (8 - j) - 1 = nI (7 - j) := by rw [m1 (by omega), show 8 - j - 1 = 7 - j by omega]
    have ej2 : nI (7 - j) + (-1 : Int32) = nI (8 - (j + 1)) - 1 := by rw [show 8 - (j + 1) = 7 - j by omega, Int32.sub_eq_add_neg]
    obtain ⟨T', g1, g2⟩ := cmo_m ok (h.1.o q.j (by omega) (by omega) (by omega)) (by omega) (by omega) (by omega) (h.2.o q.j) (hE.o q.j) hl (nI (7 - j)) (nI i)
    refine ⟨_, T', ?_, rfl, q.tr g2⟩
    have st1 := lst_step (p := axB c r l i w) (t := 8 - j) (m := 8) (by omega) (by omega)
    rw [show 8 - j - 1 = 7 - j by omega] at st1
    have e138 : gI T' 138 i = w := by rw [g2.1 138 i rfl, q.1 138 i rfl, hw]
    unfold f_X11_asks_55b f_X11_asks_87 f_X11_asks_101
    simp only [ej]
    rw [if_neg (show ¬ nI (7 - j) < 0 by rw [lit, nLt (by omega) (by omega)]; omega), g1, bd_e, if_pos (show inb (nI i) 6 by rw [inb_nI (by omega)]; omega), nI_t (by omega), e138, ej2, show 8 - (j + 1) = 7 - j by omega, st1, cntD, cntD, cntN]
    by_cases g : cmo c r (nI i) l (nI (7 - j)) = w
    · have gb : axB c r l i w (7 - j) = true := decide_eq_true g
      rw [if_pos g, if_neg (show ¬ (1 : Int32) = 0 by decide), show f_X11_flag 1 T' = some (1, T') from rfl, bd_e, lt_e, if_pos gb, if_pos gb, a1]
      rfl
    · have gb : ¬ axB c r l i w (7 - j) = true := by unfold axB; rw [decide_eq_false g]; simp
      rw [if_neg g, if_pos trivial, show f_X11_flag 0 T' = some (0, T') from rfl, bd_e, lt_e, if_neg gb, if_neg gb, Int32.add_zero, Nat.add_zero]
  · obtain ⟨rfl, q⟩ := hI
    refine ⟨T, ?_, q⟩
    unfold f_X11_asks_55b
    rw [if_pos (show nI (8 - 8) - 1 < 0 by decide), cntD8]
    have e1 : lstF (fun u => decide (8 - 8 ≤ u) && axB c r l i w u) 8 = lstF (axB c r l i w) 8 := by
      apply lst_eq
      intro u
      simp
    rw [e1]
    rfl
  · have e1 : lstF (fun u => decide (8 - 0 ≤ u) && axB c r l i w u) 8 = none := by
      apply lst_no
      intro u hu
      rw [decide_eq_false (by omega)]; rfl
    rw [e1]
    rfl
theorem eq_asks : ∀ a1 a2 : Int32, EQ1 RelP (f_X10_asks a1 a2) (f_X11_asks a1 a2) := by
  intro x y
  refine clq (x := x) (y := y) (FC := fun y24 S25 => bd (f_X5_begin S25) (fun r26 S27 => lp (f_X10_asks_43b y24 (fun v29 S30 => (if v29.1 = 0 then bd (f_X5_begin S30) (fun r31 S32 => some (v29.1, S32)) else some (v29.1, S30)))) FU ((1 : Int32), (0 : Int32)) S27)) (GM := fun r17 S23 => lp (f_X11_asks_39b r17 (fun v24 S25 => (if v24.1 = 0 then f_X11_asks_153 v24.1 (0 : Int32) S25 else f_X11_asks_153 v24.1 (gI S25 122 1) S25))) FU ((1 : Int32), (0 : Int32)) S23) ?_
  intro c o r l e n tx ok hl hn1 hn
  refine ⟨axA c r l tx n, if axA c r l tx n = 0 then [] else rowF (axF c r l tx) n, by split; simp; rw [rowF_l]; omega, fun T hC hE ht => ?_, fun T hM hE ht hw => ?_⟩
  · show AC (bd (f_X5_begin T) _) _ _ _
    rw [begin_e, bd_e]
    refine lp_ex (body := f_X10_asks_43b (nI n) _) (Q := fun w => AC w T (axA c r l tx n) (some (if axA c r l tx n = 0 then [] else rowF (axF c r l tx) n))) n (fun i v S => v = (axA c r l tx i, nI i) ∧ QC T S ∧ ECs c S l e ∧ RwC S (rowF (axF c r l tx) i) ∧ ∀ i, gI S 2 i = gI T 2 i) (fun i k v S hi hI => ?_) (fun k v S hI => ?_) FU 0 _ _ (by omega) (by unfold FU; omega) ⟨rfl, q10 T 0, hE.p e10, RwC.nil T, fun _ => rfl⟩
    · obtain ⟨rfl, w1, w2, w3, w4⟩ := hI
      have hCS := hC.q w1
      obtain ⟨T2, s1, s2, s3⟩ := img_c ok hCS w2 hl (nI i)
      obtain ⟨T3, t1, t2, t3, t4⟩ := put_e (axF c r l tx i).toInt64 (w3.o s2) (by rw [rowF_l]; omega)
      have hb : ∀ v, v < 8 → (gI T2 120 v = tx i ↔ axB c r l i (tx i) v = true) := fun v hv => by rw [s3 v hv]; unfold axB; simp
      have e2 : gI T2 2 i - 97 = tx i := by rw [s2.1 2 i rfl, w4, ht i hi]
      refine ⟨_, T3, ?_, rfl, (w1.tr s2.q).tr t2, (w2.o s2).p t4, t3, fun j => ?_⟩
      · unfold f_X10_asks_43b
        simp only
        rw [if_neg (by rw [nLe (by omega) (by omega)]; omega), if_pos (isRl hCS).1, (isRl hCS).2, s1, bd_e, let_c (by omega), bd_e, e2, times_c hb, bd_e, lt_e, let_c (by omega), bd_e, e2, first_c hb, bd_e]
        show bd (f_X5_put (axF c r l tx i).toInt64 T2) _ = _
        rw [t1, bd_e, a1]
        rfl
      · rw [t4 2 j (by omega), s2.1 2 j rfl, w4]
    · obtain ⟨rfl, w1, w2, w3, w4⟩ := hI
      unfold f_X10_asks_43b
      simp only
      rw [if_pos (by rw [nLe (by omega) (by omega)]; omega)]
      by_cases g : axA c r l tx n = 0
      · rw [if_pos g, if_pos g, begin_e, bd_e]
        exact AC.y rfl (w1.tr (q10 S 0)) (RwC.nil S)
      · rw [if_neg g, if_neg g]
        exact AC.y rfl w1 w3
  · show AM (lp (f_X11_asks_39b (nI n) _) FU (1, 0) T) _ _ _
    refine lp_ex (body := f_X11_asks_39b (nI n) _) (Q := fun w => AM w T (axA c r l tx n) (some (if axA c r l tx n = 0 then [] else rowF (axF c r l tx) n))) n (fun i v S => v = (axA c r l tx i, nI i) ∧ QM T S ∧ EMs c S l e ∧ RwM S (rowF (axF c r l tx) i) ∧ ∀ i, gI S 138 i = gI T 138 i) (fun i k v S hi hI => ?_) (fun k v S hI => ?_) FU 0 _ _ (by omega) (by unfold FU; omega) ⟨rfl, Sm.rf T, hE, hw, fun _ => rfl⟩
    · obtain ⟨rfl, w1, w2, w3, w4⟩ := hI
      have hCS := hM.q w1
      obtain ⟨T2, s1, s2⟩ := ax_m (S := S) ok hCS w2 hl (show i < 6 by omega) (w := tx i) (by rw [w4, ht i hi]) (nI n) (axA c r l tx i) (fun v10 S11 => lt (axA c r l tx i * v10.1) (fun y12 => bd (f_X11_enters v10.2.1.toInt64 S11) (fun r13 S14 => k (y12, (nI i + (1 : Int32))) S14)))
      obtain ⟨T3, t1, t2, t3, t4⟩ := ent_e (axF c r l tx i).toInt64 (w3.o s2.j) (by rw [rowF_l]; omega)
      refine ⟨_, T3, ?_, rfl, (w1.tr s2.j.q).tr t2, (w2.o s2.j).p t4, t3, fun j => ?_⟩
      · unfold f_X11_asks_39b
        simp only
        rw [if_neg (by rw [nLe (by omega) (by omega)]; omega)]
        refine s1.trans ?_
        simp only
        rw [lt_e]
        show bd (f_X11_enters (axF c r l tx i).toInt64 T2) _ = _
        rw [t1, bd_e, a1]
        rfl
      · rw [t4 138 j (by omega), s2.1 138 j rfl, w4]
    · obtain ⟨rfl, w1, w2, w3, w4⟩ := hI
      unfold f_X11_asks_39b f_X11_asks_153
      simp only
      rw [if_pos (by rw [nLe (by omega) (by omega)]; omega)]
      by_cases g : axA c r l tx n = 0
      · rw [if_pos g, if_pos g, lt_e]
        exact AM.y rfl (w1.tr (q01 S 0)) (RwM.nil S)
      · rw [if_neg g, if_neg g, lt_e]
        refine AM.y rfl (w1.tr (q01 S _)) ⟨?_, w3.2⟩
        rw [gI_s, if_pos rfl, if_pos rfl]; exact w3.1
