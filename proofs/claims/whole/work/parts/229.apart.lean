/-! apart -/
theorem cnt_cg {f g : Nat → Bool} : ∀ n, (∀ i, i < n → f i = g i) → cntN f n = cntN g n := by
  intro n
  induction n with
  | zero => intro _; rfl
  | succ n ih => intro h; rw [cntN, cntN, ih (fun i hi => h i (by omega)), h n (by omega)]
def mxN (f : Nat → Nat) : Nat → Nat
  | 0 => 0
  | i + 1 => max (mxN f i) (f i)
theorem mx_cg {f g : Nat → Nat} : ∀ n, (∀ i, i < n → f i = g i) → mxN f n = mxN g n := by
  intro n
  induction n with
  | zero => intro _; rfl
  | succ n ih => intro h; rw [mxN, mxN, ih (fun i hi => h i (by omega)), h n (by omega)]
theorem mx_le {f : Nat → Nat} {b : Nat} : ∀ n, (∀ i, i < n → f i ≤ b) → mxN f n ≤ b := by
  intro n
  induction n with
  | zero => intro _; exact Nat.zero_le _
  | succ n ih => intro h; rw [mxN]; exact Nat.max_le.mpr ⟨ih (fun i hi => h i (by omega)), h n (by omega)⟩
theorem up1 {f g : Nat → Nat} {k : Nat} (h1 : g k = f k + 1) (h2 : ∀ w, w ≠ k → g w = f w) : ∀ n, k < n → cntN (fun w => decide (0 < g w)) n = cntN (fun w => decide (0 < f w)) n + (if f k = 0 then 1 else 0) := by
  intro n
  induction n with
  | zero => intro h; omega
  | succ n ih =>
    intro h
    rw [cntN, cntN]
    by_cases e : k = n
    · subst e
      rw [cnt_cg k (fun i hi => by rw [h2 i (by omega)]), if_pos (decide_eq_true (show 0 < g k by omega))]
      by_cases z : f k = 0
      · rw [if_pos z, if_neg (by rw [decide_eq_false (by omega)]; simp)]
      · rw [if_neg z, if_pos (decide_eq_true (show 0 < f k by omega))]
    · rw [ih (by omega), h2 n (by omega)]
      omega
theorem mx1 {f g : Nat → Nat} {k : Nat} (h1 : g k = f k + 1) (h2 : ∀ w, w ≠ k → g w = f w) : ∀ n, k < n → mxN g n = max (mxN f n) (f k + 1) := by
  intro n
  induction n with
  | zero => intro h; omega
  | succ n ih =>
    intro h
    rw [mxN, mxN]
    by_cases e : k = n
    · subst e
      rw [mx_cg k (fun i hi => h2 i (by omega)), h1]
      omega
    · rw [ih (by omega), h2 n (by omega)]
      omega
theorem cmo7 (c : Cv) (r : Rl) (pl : Int32) : ∀ (l : Pth) (v : Int32), (∃ k, k ≤ 7 ∧ v = nI k) → ∃ k, k ≤ 7 ∧ cmo c r pl l v = nI k := by
  intro l
  induction l with
  | nil => intro v h; exact h
  | cons p l ih =>
    intro v _
    show ∃ k, k ≤ 7 ∧ cmo c r pl l (chv c r p.1 p.2 pl v) = nI k
    apply ih
    exact and7 _
def imN (c : Cv) (r : Rl) (l : Pth) (p v : Nat) : Nat := (cmo c r (nI p) l (nI v)).toNatClampNeg
theorem imN_e (c : Cv) (r : Rl) (l : Pth) (p : Nat) {v : Nat} (hv : v < 8) : cmo c r (nI p) l (nI v) = nI (imN c r l p v) ∧ imN c r l p v < 8 := by
  obtain ⟨k, h1, h2⟩ := cmo7 c r (nI p) l (nI v) ⟨v, by omega, rfl⟩
  unfold imN
  rw [h2, nI_t (by omega)]
  exact ⟨rfl, by omega⟩
def tV (c : Cv) (r : Rl) (l : Pth) (p v w : Nat) : Nat := cntN (fun u => decide (imN c r l p u = w)) v
theorem tV_le (c : Cv) (r : Rl) (l : Pth) (p v w : Nat) : tV c r l p v w ≤ v := cnt_le _ _
theorem tV_w (c : Cv) (r : Rl) (l : Pth) (p : Nat) {w : Nat} (hw : w < 8) : cntN (axB c r l p (nI w)) 8 = tV c r l p 8 w := by
  apply cnt_cg
  intro u hu
  obtain ⟨e1, e2⟩ := imN_e c r l p hu
  unfold axB
  rw [e1]
  by_cases g : imN c r l p u = w
  · rw [decide_eq_true (by rw [g]), decide_eq_true g]
  · rw [decide_eq_false (by rw [nEq (by omega) (by omega)]; exact g), decide_eq_false g]
def dfV (c : Cv) (r : Rl) (l : Pth) (p v : Nat) : Nat := cntN (fun w => decide (0 < tV c r l p v w)) 8
def moV (c : Cv) (r : Rl) (l : Pth) (p v : Nat) : Nat := mxN (tV c r l p v) 8
theorem mxNI {a b : Nat} (ha : a < 2147483648) (hb : b < 2147483648) : mxI (nI a) (nI b) = nI (max a b) := by
  unfold mxI
  by_cases g : a < b
  · rw [if_pos (by rw [nLt ha hb]; exact g), Nat.max_eq_right (by omega)]
  · rw [if_neg (by rw [nLt ha hb]; exact g), Nat.max_eq_left (by omega)]
theorem ap_c {T : St} {c : Cv} {r : Rl} {l : Pth} {p : Nat} (hb : ∀ w v, v < 8 → (gI T 120 v = nI w ↔ axB c r l p (nI w) v = true)) (x3 x4 x5 x6 : Int32) (e : Int32 × Int32 × Int32 → St → Option (Int32 × St)) : lp (f_X10_apart_66b x3 x4 x5 x6 e) FU (0, 0, 0) T = e (nI (dfV c r l p 8), nI (moV c r l p 8), nI 8) T := by
  refine lp_for (body := f_X10_apart_66b x3 x4 x5 x6 e) 8 (fun i => ((nI (cntN (fun w => decide (0 < tV c r l p 8 w)) i), nI (mxN (tV c r l p 8) i), nI i), T)) (out := e (nI (dfV c r l p 8), nI (moV c r l p 8), nI 8) T) (fun i k hi => ?_) (fun k => ?_) FU 0 (by omega) (by unfold FU; omega)
  · unfold f_X10_apart_66b f_X10_apart_93
    simp only
    have ht := tV_le c r l p 8 i
    have hm : mxN (tV c r l p 8) i ≤ 8 := mx_le i (fun j _ => tV_le c r l p 8 j)
    rw [if_neg (nLe8 hi), times_c (hb i), bd_e, tV_w c r l p hi, cntN, mxN]
    by_cases g : 0 < tV c r l p 8 i
    · rw [if_neg (show ¬ nI (tV c r l p 8 i) ≤ 0 by rw [lit, nLe (by omega) (by omega)]; omega), lt_e, lt_e, if_pos (decide_eq_true g), mxNI (by omega) (by omega)]
      simp only [a1]
    · rw [if_pos (show nI (tV c r l p 8 i) ≤ 0 by rw [lit, nLe (by omega) (by omega)]; omega), lt_e, lt_e, if_neg (by rw [decide_eq_false g]; simp), mxNI (by omega) (by omega)]
      simp only [a1, Int32.add_zero, Nat.add_zero]
  · unfold f_X10_apart_66b
    simp only
    rw [if_pos (show (8 : Int32) ≤ nI 8 by decide)]
    rfl
theorem apz_m (x3 x4 x5 x6 x7 x8 : Int32) (T : St) (e : Int32 → St → Option (Int32 × St)) : ∃ T', lp (f_X11_apart_66b x3 x4 x5 x6 x7 x8 e) FU 0 T = e (nI 8) T' ∧ oN T T' ∧ ∀ w, w < 8 → gI T' 144 w = nI 0 := by
  have h := lp_ex (body := f_X11_apart_66b x3 x4 x5 x6 x7 x8 e) (Q := fun z => ∃ T', z = e (nI 8) T' ∧ oN T T' ∧ ∀ w, w < 8 → gI T' 144 w = nI 0) 8 (fun i v S => v = nI i ∧ oN T S ∧ ∀ w, w < i → gI S 144 w = nI 0) (fun i k v S hi hI => ?_) (fun k v S hI => ?_) FU 0 (0 : Int32) T (by omega) (by unfold FU; omega) ⟨rfl, Sm.rf T, fun w hw => by omega⟩
  · exact h
  · obtain ⟨rfl, q, w⟩ := hI
    refine ⟨nI (i + 1), sI S 144 i 0, ?_, rfl, q.sI rfl, fun j hj => ?_⟩
    · unfold f_X11_apart_66b
      rw [if_neg (nLe8 hi), if_pos (show inb (nI i) 8 by rw [inb_nI (by omega)]; omega), lt_e, nI_t (by omega), a1]
    · rw [gI_s, if_pos rfl]
      by_cases e : j = i
      · rw [if_pos e]; rfl
      · rw [if_neg e]; exact w j (by omega)
  · obtain ⟨rfl, q, w⟩ := hI
    refine ⟨S, ?_, q, w⟩
    unfold f_X11_apart_66b
    rw [if_pos (show (8 : Int32) ≤ nI 8 by decide)]
theorem ap_m {T : St} {c : Cv} {r : Rl} {l : Pth} {x p : Nat} (ok : Cok c) (h : MX T c r) (hE : EMs c T l x) (hl : Pok c l) (hz : ∀ w, w < 8 → gI T 144 w = nI 0) (x3 x4 x5 : Int32) (e : Int32 × Int32 × Int32 → St → Option (Int32 × St)) : ∃ T', lp (f_X11_apart_90b x3 x4 x5 (nI p) e) FU (0, 0, 0) T = e (nI (dfV c r l p 8), nI (moV c r l p 8), nI 8) T' ∧ oN T T' := by
  have h := lp_ex (body := f_X11_apart_90b x3 x4 x5 (nI p) e) (Q := fun z => ∃ T', z = e (nI (dfV c r l p 8), nI (moV c r l p 8), nI 8) T' ∧ oN T T') 8 (fun i v S => v = (nI (dfV c r l p i), nI (moV c r l p i), nI i) ∧ oN T S ∧ ∀ w, w < 8 → gI S 144 w = nI (tV c r l p i w)) (fun i k v S hi hI => ?_) (fun k v S hI => ?_) FU 0 ((0 : Int32), (0 : Int32), (0 : Int32)) T (by omega) (by unfold FU; omega) ⟨?_, Sm.rf T, hz⟩
  · exact h
  · obtain ⟨rfl, q, w⟩ := hI
    obtain ⟨T', g1, g2⟩ := cmo_m ok (h.1.o q (by omega) (by omega) (by omega)) (by omega) (by omega) (by omega) (h.2.o q) (hE.o q) hl (nI i) (nI p)
    obtain ⟨e1, e2⟩ := imN_e c r l p hi
    generalize hk : imN c r l p i = kk at e1 e2
    have et : gI T' 144 kk = nI (tV c r l p i kk) := by rw [g2.1 144 kk rfl, w kk e2]
    have ht := tV_le c r l p i kk
    have u1 : tV c r l p (i + 1) kk = tV c r l p i kk + 1 := by
      show cntN _ i + _ = _
      rw [if_pos (decide_eq_true hk)]
      rfl
    have u2 : ∀ w, w ≠ kk → tV c r l p (i + 1) w = tV c r l p i w := by
      intro w hw
      show cntN _ i + _ = _
      rw [if_neg (by dsimp only; rw [decide_eq_false (by omega)]; simp)]
      rfl
    have d1 : dfV c r l p (i + 1) = dfV c r l p i + (if tV c r l p i kk = 0 then 1 else 0) := up1 u1 u2 8 e2
    have d2 : moV c r l p (i + 1) = max (moV c r l p i) (tV c r l p i kk + 1) := mx1 u1 u2 8 e2
    have hm : moV c r l p i ≤ 8 := mx_le 8 (fun j _ => by have := tV_le c r l p i j; omega)
    refine ⟨(nI (dfV c r l p (i + 1)), nI (moV c r l p (i + 1)), nI (i + 1)), sI T' 144 kk (nI (tV c r l p i kk + 1)), ?_, rfl, (q.tr g2.j).sI rfl, fun j hj => ?_⟩
    · unfold f_X11_apart_90b f_X11_apart_128
      simp only
      have w8 : inb (nI kk) 8 := by rw [inb_nI (by omega)]; omega
      rw [if_neg (nLe8 hi), g1, bd_e, e1, d1, d2]
      simp only [if_pos w8, nI_t (show kk < 2147483648 by omega), et]
      by_cases g : tV c r l p i kk = 0
      · rw [if_pos (show nI (tV c r l p i kk) = 0 by rw [g]; rfl), show f_X11_flag 1 T' = some (1, T') from rfl, bd_e, lt_e, lt_e, lt_e, et, if_pos g, gI_s, if_pos rfl, if_pos rfl, show nI (tV c r l p i kk) + (1 : Int32) = nI (tV c r l p i kk + 1) from nAdd _ _, mxNI (by omega) (by omega)]
        simp only [a1]
      · rw [if_neg (show ¬ nI (tV c r l p i kk) = 0 by rw [lit, nEq (by omega) (by omega)]; exact g), show f_X11_flag 0 T' = some (0, T') from rfl, bd_e, lt_e, lt_e, lt_e, et, if_neg g, gI_s, if_pos rfl, if_pos rfl, show nI (tV c r l p i kk) + (1 : Int32) = nI (tV c r l p i kk + 1) from nAdd _ _, mxNI (by omega) (by omega)]
        simp only [a1, Int32.add_zero, Nat.add_zero]
    · rw [gI_s, if_pos rfl]
      by_cases e : j = kk
      · rw [if_pos e, e, u1]
      · rw [if_neg e, u2 j e, g2.1 144 j rfl, w j hj]
  · obtain ⟨rfl, q, w⟩ := hI
    refine ⟨S, ?_, q⟩
    unfold f_X11_apart_90b
    rw [if_pos (show (8 : Int32) ≤ nI 8 by decide)]
  · rfl
def apA (c : Cv) (r : Rl) (l : Pth) : Nat → Int32 × Int32 := itN (fun p a => (a.1 * nI (dfV c r l p 8), a.2 * nI (moV c r l p 8))) (1, 1)
theorem eq_apart : ∀ a1 a2 a3 : Int32, EQ1 RelP (f_X10_apart a1 a2 a3) (f_X11_apart a1 a2 a3) := by
  intro x y z
  apply qr
  intro S c o r hS ok hC hM
  by_cases he : echP c x y
  · obtain ⟨q, st, hq, hst, rfl, rfl, ho, hen⟩ := he
    have hl := pth_ok ok hst hq
    by_cases hz : ¬ z < nI 1 ∧ ¬ nI 6 < z
    · obtain ⟨n, hn, rfl⟩ : ∃ n, n ≤ 6 ∧ z = nI n := as_le (b := 6) (by have := hz.1; rw [i_lt, nI_int (by omega)] at this ⊢; omega) hz.2
      refine ⟨(apA c r (pth c st q) n).1, some [(apA c r (pth c st q) n).2.toInt64], (fun l e => by cases e; simp), ?_, fun S1 hM1 q1 => ?_⟩
      · obtain ⟨T1, g1, g2, g3⟩ := goes_y ok hC.1 hst hq ho hen
        unfold f_X10_apart
        rw [if_neg (show ¬ nI n < 1 from hz.1), if_neg (show ¬ 6 < nI n from hz.2), g1, bd_e, if_neg (show ¬ nI 1 = 0 by decide)]
        have h := lp_ex (body := f_X10_apart_34b (nI n) (fun v17 S18 => bd (f_X5_begin S18) (fun r19 S20 => bd (f_X5_put v17.2.1.toInt64 S20) (fun r22 S23 => some (v17.1, S23))))) (Q := fun w => AC w S (apA c r (pth c st q) n).1 (some [(apA c r (pth c st q) n).2.toInt64])) n (fun i v T => v = ((apA c r (pth c st q) i).1, (apA c r (pth c st q) i).2, nI i) ∧ QC S T ∧ ECs c T (pth c st q) (pen c st q)) (fun i k v T hi hI => ?_) (fun k v T hI => ?_) FU 0 ((1 : Int32), (1 : Int32), (0 : Int32)) T1 (by omega) (by unfold FU; omega) ⟨rfl, g2.q, g3⟩
        · exact h
        · obtain ⟨rfl, w1, w2⟩ := hI
          have hCT := hC.q w1
          obtain ⟨T2, s1, s2, s3⟩ := img_c ok hCT w2 hl (nI i)
          refine ⟨_, T2, ?_, rfl, w1.tr s2.q, w2.o s2⟩
          unfold f_X10_apart_34b
          simp only
          rw [if_neg (by rw [nLe (by omega) (by omega)]; omega), if_pos (isRl hCT).1, (isRl hCT).2, s1, bd_e]
          refine (ap_c (T := T2) (c := c) (r := r) (l := pth c st q) (p := i) (fun w v hv => by rw [s3 v hv]; unfold axB; simp) _ _ _ _ _).trans ?_
          simp only [lt_e, a1]
          rfl
        · obtain ⟨rfl, w1, w2⟩ := hI
          obtain ⟨T2, s1, s2, s3, s4⟩ := put_e (apA c r (pth c st q) n).2.toInt64 (RwC.nil T) (by simp)
          refine AC.y (S1 := T2) ?_ ((w1.tr (q10 T 0)).tr s2) s3
          unfold f_X10_apart_34b
          rw [if_pos (by rw [nLe (by omega) (by omega)]; omega)]
          dsimp only
          rw [begin_e, bd_e, s1, bd_e]
      · have hM0 := hM1.q (q00 S1 0)
        obtain ⟨T1, g1, g2, g3⟩ := lays_m ok hM0.1 (by omega) (by omega) (by omega) hst hq ho
        unfold f_X11_apart
        rw [lt_e, isE_y ok hM0.1 hst hq ho hen, bd_e, if_neg (show ¬ nI 1 = 0 by decide), in_1_6, bd_e]
        simp only [fl3z, if_pos hz]
        rw [g1, bd_e]
        have h := lp_ex (body := f_X11_apart_51b (nI n) (fun v32 S33 => lt (sI S33 122 1 (0 : Int32)) (fun S34 => bd (f_X11_enters v32.2.1.toInt64 S34) (fun r35 S36 => some (v32.1, S36))))) (Q := fun w => AM w S1 (apA c r (pth c st q) n).1 (some [(apA c r (pth c st q) n).2.toInt64])) n (fun i v T => v = ((apA c r (pth c st q) i).1, (apA c r (pth c st q) i).2, nI i) ∧ QM S1 T ∧ EMs c T (pth c st q) (pen c st q)) (fun i k v T hi hI => ?_) (fun k v T hI => ?_) FU 0 ((1 : Int32), (1 : Int32), (0 : Int32)) T1 (by omega) (by unfold FU; omega) ⟨rfl, (q00 S1 0).tr g2.q, g3⟩
        · exact h
        · obtain ⟨rfl, w1, w2⟩ := hI
          have hCT := hM1.q w1
          have ez : ∀ e0 : Int32 → St → Option (Int32 × St), ∃ T', lp (f_X11_apart_66b (nI n) (apA c r (pth c st q) i).1 (apA c r (pth c st q) i).2 (nI i) 0 0 e0) FU 0 T = e0 (nI 8) T' ∧ oN T T' ∧ ∀ w, w < 8 → gI T' 144 w = nI 0 := fun e0 => apz_m _ _ _ _ _ _ T e0
          obtain ⟨T2, s1, s2, s3⟩ := ez (fun v16 S17 => lp (f_X11_apart_90b (nI n) (apA c r (pth c st q) i).1 (apA c r (pth c st q) i).2 (nI i) (fun v18 S19 => lt ((apA c r (pth c st q) i).1 * v18.1) (fun y20 => lt ((apA c r (pth c st q) i).2 * v18.2.1) (fun y21 => k (y20, y21, (nI i + (1 : Int32))) S19)))) FU ((0 : Int32), (0 : Int32), (0 : Int32)) S17)
          obtain ⟨T3, t1, t2⟩ := ap_m (p := i) ok (hCT.q s2.q) (w2.o s2) hl s3 (nI n) (apA c r (pth c st q) i).1 (apA c r (pth c st q) i).2 (fun v18 S19 => lt ((apA c r (pth c st q) i).1 * v18.1) (fun y20 => lt ((apA c r (pth c st q) i).2 * v18.2.1) (fun y21 => k (y20, y21, (nI i + (1 : Int32))) S19)))
          refine ⟨_, T3, ?_, rfl, (w1.tr s2.q).tr t2.q, (w2.o s2).o t2⟩
          unfold f_X11_apart_51b
          simp only
          rw [if_neg (by rw [nLe (by omega) (by omega)]; omega)]
          refine s1.trans (t1.trans ?_)
          simp only [lt_e, a1]
          rfl
        · obtain ⟨rfl, w1, w2⟩ := hI
          obtain ⟨T2, s1, s2, s3, s4⟩ := ent_e (apA c r (pth c st q) n).2.toInt64 (RwM.nil T) (by simp)
          refine AM.y (S1 := T2) ?_ ((w1.tr (q01 T 0)).tr s2) s3
          unfold f_X11_apart_51b
          rw [if_pos (by rw [nLe (by omega) (by omega)]; omega)]
          dsimp only
          rw [lt_e, s1, bd_e]
    · refine ⟨-1, none, (fun l e => by cases e), ?_, fun S1 hM1 q1 => ?_⟩
      · refine AC.n (S1 := S) ?_ (Sm.rf S)
        unfold f_X10_apart
        by_cases h1 : z < 1
        · rw [if_pos h1]
        · rw [if_neg h1, if_pos (by
            apply Decidable.byContradiction
            intro h2
            exact hz ⟨h1, h2⟩)]
      · refine AM.n (S1 := sI S1 122 0 0) ?_ (q00 S1 0)
        unfold f_X11_apart
        rw [lt_e, isE_y ok (hM1.q (q00 S1 0)).1 hst hq ho hen, bd_e, if_neg (show ¬ nI 1 = 0 by decide), in_1_6, if_neg hz, bd_e, if_pos z00]
  · refine ⟨-1, none, (fun l e => by cases e), ?_, fun S1 hM1 q1 => ?_⟩
    · refine AC.n (S1 := S) ?_ (Sm.rf S)
      unfold f_X10_apart
      rw [goes_n ok hC.1 he, bd_e, if_pos z00]
      by_cases h1 : z < 1
      · rw [if_pos h1]
      · rw [if_neg h1]
        by_cases h2 : 6 < z
        · rw [if_pos h2]
        · rw [if_neg h2]
    · refine AM.n (S1 := sI S1 122 0 0) ?_ (q00 S1 0)
      unfold f_X11_apart
      rw [lt_e, isE_n ok (hM1.q (q00 S1 0)).1 he, bd_e, if_pos z00]
