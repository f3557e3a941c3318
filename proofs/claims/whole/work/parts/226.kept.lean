/-! longest -/
abbrev Lg : Type := Option (Nat × Nat × Nat)
def lgB : Lg → Int32
  | none => -2
  | some a => nI a.1
def lgM : Lg → Nat
  | none => 0
  | some a => a.2.1
def lgE : Lg → Nat
  | none => 0
  | some a => a.2.2
def lgS (c : Cv) (st q : Nat) (a : Lg) : Lg := if echB c st q = true ∧ lgM a < sumD c (pth c st q) then some (q, sumD c (pth c st q), pen c st q) else a
def lgA (c : Cv) (st : Nat) : Nat → Lg := itN (lgS c st) none
theorem lg_ok {c : Cv} (ok : Cok c) {st : Nat} (hst : st ≤ 7) : ∀ i, i ≤ cm c → ∀ a, lgA c st i = some a → a.1 < i ∧ a.2.1 ≤ 108 ∧ a.2.2 ≤ 7 := by
  intro i
  induction i with
  | zero => intro _ a h; cases h
  | succ i ih =>
    intro hi a h
    unfold lgA at h
    rw [itN, lgS] at h
    split at h
    · cases h
      exact ⟨by show i < i + 1; omega, sum_ok ok hst (by omega), pen_ok ok hst (by omega)⟩
    · have := ih (by omega) a h
      omega
theorem lgM_ok {c : Cv} (ok : Cok c) {st : Nat} (hst : st ≤ 7) {i : Nat} (hi : i ≤ cm c) : lgM (lgA c st i) ≤ 108 := by
  cases e : lgA c st i with
  | none => show 0 ≤ _; omega
  | some a => exact (lg_ok ok hst i hi a e).2.1
def lgR : Lg → Option (List Int64)
  | none => none
  | some a => some [(nI a.2.1).toInt64, (nI a.2.2).toInt64]
theorem lgA_s (c : Cv) (st i : Nat) : lgA c st (i + 1) = lgS c st i (lgA c st i) := rfl
theorem ncav {x : Int32} (h : ¬ (¬ x < nI 0 ∧ ¬ nI 7 < x)) : (if ¬ x < nI 0 ∧ ¬ nI 7 < x then nI 1 else nI 0) = nI 0 := if_neg h
theorem eq_longest : ∀ a1 : Int32, EQ1 RelP (f_X10_longest a1) (f_X11_longest a1) := by
  intro x
  apply qr
  intro S c o r hS ok hC hM
  have h12 := ok12 ok
  by_cases g0 : ¬ x < nI 0 ∧ ¬ nI 7 < x
  · obtain ⟨st, hst, rfl⟩ := as_le g0.1 g0.2
    refine ⟨lgB (lgA c st (cm c)), lgR (lgA c st (cm c)), fun l e => ?_, ?_, fun S1 hM1 q1 => ?_⟩
    · cases h : lgA c st (cm c) with
      | none => rw [h] at e; cases e
      | some a => rw [h] at e; cases e; simp
    · unfold f_X10_longest
      rw [isCav_c, bd_e]
      simp only [fl3z, if_pos g0]
      refine lp_ex (body := f_X10_longest_20b (nI st) _) (Q := fun w => AC w S (lgB (lgA c st (cm c))) (lgR (lgA c st (cm c)))) (cm c) (fun i v T => v = (lgB (lgA c st i), nI (lgM (lgA c st i)), nI (lgE (lgA c st i)), nI i) ∧ offE S T) (fun i k v T hi hI => ?_) (fun k v T hI => ?_) FU 0 _ S (by omega) (by unfold FU; omega) ⟨rfl, offE.rf S⟩
      · obtain ⟨rfl, q⟩ := hI
        have hCT := hC.1.q q.q
        obtain ⟨T', g1, g2, g3⟩ := goes_b ok hCT hst hi
        refine ⟨_, T', ?_, rfl, q.tr g2⟩
        have hm := lgM_ok ok hst (i := i) (by omega)
        have hs := sum_ok ok hst hi
        rw [lgA_s, lgS]
        unfold f_X10_longest_20b f_X10_longest_76
        simp only
        rw [hCT.1, if_neg (by rw [nLe (by omega) (by omega)]; omega), g1, bd_e, a1]
        cases hb : echB c st i with
        | false => rw [flI_f, if_pos z00, if_neg (by simp)]
        | true =>
          rw [flI_t, if_neg (by decide), (g3 hb).2.1, (g3 hb).2.2.1]
          by_cases hp2 : lgM (lgA c st i) < sumD c (pth c st i)
          · rw [if_neg (by rw [nLe (by omega) (by omega)]; omega), if_pos ⟨rfl, hp2⟩, lt_e, lt_e]; rfl
          · rw [if_pos (by rw [nLe (by omega) (by omega)]; omega), if_neg (fun h => hp2 h.2)]
      · obtain ⟨rfl, q⟩ := hI
        have hCT := hC.1.q q.q
        unfold f_X10_longest_20b
        simp only
        rw [hCT.1, if_pos (by rw [nLe (by omega) (by omega)]; omega)]
        cases h : lgA c st (cm c) with
        | none =>
          rw [if_pos (show lgB none < 0 by decide)]
          exact AC.n rfl q.q (q.1 10 1 (by omega) (by omega) (by omega)) (fun k => q.2 11 k)
        | some a =>
          obtain ⟨z1, z2, z3⟩ := lg_ok ok hst (cm c) (by omega) a h
          rw [if_neg (show ¬ lgB (some a) < 0 by show ¬ nI a.1 < nI 0; rw [nLt (by omega) (by omega)]; omega)]
          obtain ⟨T2, s1, s2, s3, s4⟩ := put_e (nI a.2.1).toInt64 (RwC.nil T) (by simp)
          obtain ⟨T3, t1, t2, t3, t4⟩ := put_e (nI a.2.2).toInt64 s3 (by simp)
          refine AC.y (S1 := T3) ?_ (((q.q.tr (q10 T 0)).tr s2).tr t2) t3
          rw [begin_e, bd_e]
          show bd (f_X5_put (nI a.2.1).toInt64 _) _ = _
          rw [s1, bd_e]
          show bd (f_X5_put (nI a.2.2).toInt64 _) _ = _
          rw [t1, bd_e]
    · unfold f_X11_longest
      rw [lt_e, isCav_m, bd_e]
      simp only [fl3z, if_pos g0]
      have hM0 := (hM1.q (q00 S1 0)).1
      refine lp_ex (body := f_X11_longest_22b (nI st) _) (Q := fun w => AM w S1 (lgB (lgA c st (cm c))) (lgR (lgA c st (cm c)))) (cm c) (fun i v T => v = (lgB (lgA c st i), nI (lgM (lgA c st i)), nI i) ∧ QM (sI S1 122 0 0) T ∧ (∀ l, lgR (lgA c st i) = some l → RwM T l) ∧ (lgR (lgA c st i) = none → gI T 122 1 = gI S1 122 1 ∧ ∀ k, gL T 123 k = gL S1 123 k)) (fun i k v T hi hI => ?_) (fun k v T hI => ?_) FU 0 _ _ (by omega) (by unfold FU; omega) ⟨rfl, Sm.rf _, fun l e => (by cases e), fun _ => ⟨rfl, fun _ => rfl⟩⟩
      · obtain ⟨rfl, q, w1, w2⟩ := hI
        have hCT := hM0.q q
        have hm := lgM_ok ok hst (i := i) (by omega)
        have hs := sum_ok ok hst hi
        rw [lgA_s, lgS]
        cases hb : echB c st i with
        | false =>
          rw [if_neg (by simp)]
          refine ⟨_, T, ?_, rfl, q, w1, w2⟩
          unfold f_X11_longest_22b f_X11_longest_95
          simp only
          rw [hCT.1, if_neg (by rw [nLe (by omega) (by omega)]; omega), isE_b ok hCT hst hi, bd_e, a1, hb, flI_f, if_pos z00]
        | true =>
          obtain ⟨T1, g1, g2, g3⟩ := lays_m ok hCT (by omega) (by omega) (by omega) hst hi (echB_o hb)
          by_cases hp2 : lgM (lgA c st i) < sumD c (pth c st i)
          · rw [if_pos ⟨rfl, hp2⟩]
            obtain ⟨T2, s1, s2, s3, s4⟩ := ent_e (nI (sumD c (pth c st i))).toInt64 (RwM.nil T1) (by simp)
            obtain ⟨T3, t1, t2, t3, t4⟩ := ent_e (nI (pen c st i)).toInt64 s3 (by simp)
            refine ⟨_, T3, ?_, rfl, (((q.tr g2.q).tr (q01 T1 0)).tr s2).tr t2, fun l e => (by cases e; exact t3), fun e => (by cases e)⟩
            unfold f_X11_longest_22b f_X11_longest_95
            simp only
            rw [hCT.1, if_neg (by rw [nLe (by omega) (by omega)]; omega), isE_b ok hCT hst hi, bd_e, a1, hb, flI_t, if_neg (by decide), g1, bd_e, g3.2.1, if_neg (by rw [nLe (by omega) (by omega)]; omega), lt_e, lt_e, e01 122 26 (by omega), g3.2.1, s1, bd_e, s4 122 25 (by omega), e01 122 25 (by omega), g3.2.2.1, t1, bd_e]
            rfl
          · rw [if_neg (fun h => hp2 h.2)]
            refine ⟨_, T1, ?_, rfl, q.tr g2.q, fun l e => (w1 l e).e g2, fun e => ⟨?_, fun k => ?_⟩⟩
            · unfold f_X11_longest_22b f_X11_longest_95
              simp only
              rw [hCT.1, if_neg (by rw [nLe (by omega) (by omega)]; omega), isE_b ok hCT hst hi, bd_e, a1, hb, flI_t, if_neg (by decide), g1, bd_e, g3.2.1, if_pos (by rw [nLe (by omega) (by omega)]; omega)]
            · exact (g2.1 122 1 (by omega) (by omega) (by omega)).trans (w2 e).1
            · exact (g2.2 123 k).trans ((w2 e).2 k)
      · obtain ⟨rfl, q, w1, w2⟩ := hI
        have hCT := hM0.q q
        refine ⟨T, ?_, (q00 S1 0).tr q, w1, w2⟩
        unfold f_X11_longest_22b
        simp only
        rw [hCT.1, if_pos (by rw [nLe (by omega) (by omega)]; omega)]
  · refine ⟨-1, none, (fun l e => by cases e), ?_, fun S1 hM1 q1 => ?_⟩
    · refine AC.n (S1 := S) ?_ (Sm.rf S)
      unfold f_X10_longest
      rw [isCav_c, ncav g0, bd_e, if_pos z00]
    · refine AM.n (S1 := sI S1 122 0 0) ?_ (q00 S1 0)
      unfold f_X11_longest
      rw [lt_e, isCav_m, ncav g0, bd_e, if_pos z00]
/-! images -/
theorem img_c {T : St} {c : Cv} {o : Nat} {r : Rl} {l : Pth} {x : Nat} (ok : Cok c) (h : CX T c o r) (hE : ECs c T l x) (hl : Pok c l) (pl : Int32) : ∃ T', f_X2_imagesAt o pl T = some ((), T') ∧ oJ T T' ∧ ∀ v, v < 8 → gI T' 120 v = cmo c r pl l (nI v) := by
  refine lp_ex (body := f_X2_imagesAt_3b o pl (fun v6 S7 => some ((), S7))) (Q := fun w => ∃ T', w = some ((), T') ∧ oJ T T' ∧ ∀ v, v < 8 → gI T' 120 v = cmo c r pl l (nI v)) 8 (fun i v S => v = nI i ∧ oJ T S ∧ ∀ v, v < i → gI S 120 v = cmo c r pl l (nI v)) (fun i k v S hi hI => ?_) (fun k v S hI => ?_) FU 0 _ T (by omega) (by unfold FU; omega) ⟨rfl, Sm.rf T, fun v hv => by omega⟩
  · obtain ⟨rfl, q, w⟩ := hI
    obtain ⟨T', g1, g2⟩ := cmo_c ok (h.1.o q) (h.2.1.o q) (hE.o q) hl (nI i) pl
    refine ⟨nI (i + 1), sI T' 120 i (cmo c r pl l (nI i)), ?_, rfl, (q.tr g2.j).sI rfl, fun v hv => ?_⟩
    · unfold f_X2_imagesAt_3b
      rw [if_neg (nLe8 hi), g1, bd_e, if_pos (by rw [inb_nI (by omega)]; omega), lt_e, nI_t (by omega), a1]
    · rw [gI_s, if_pos rfl]
      by_cases e : v = i
      · rw [if_pos e, e]
      · rw [if_neg e, g2.1 120 v rfl]; exact w v (by omega)
  · obtain ⟨rfl, q, w⟩ := hI
    unfold f_X2_imagesAt_3b
    rw [if_pos (show (8 : Int32) ≤ nI 8 by decide)]
    exact ⟨S, rfl, q, w⟩
/-! keeps -/
def cntN (f : Nat → Bool) : Nat → Nat
  | 0 => 0
  | i + 1 => cntN f i + (if f i = true then 1 else 0)
theorem cnt_le (f : Nat → Bool) : ∀ n, cntN f n ≤ n := by
  intro n
  induction n with
  | zero => exact Nat.le_refl _
  | succ n ih => rw [cntN]; split <;> omega
def kpB (c : Cv) (r : Rl) (l : Pth) (p v : Nat) : Bool := decide (cmo c r (nI p) l (nI v) = nI v)
def kpt (c : Cv) (r : Rl) (l : Pth) (p : Nat) : Nat := cntN (kpB c r l p) 8
theorem cnt_c {T : St} {b : Nat → Bool} (hb : ∀ v, v < 8 → (gI T 120 v = nI v ↔ b v = true)) (x3 x4 : Int32) (e : Int32 × Int32 → St → Option (Int32 × St)) : lp (f_X10_keeps_56b x3 x4 e) FU (0, 0) T = e (nI (cntN b 8), nI 8) T := by
  refine lp_for (body := f_X10_keeps_56b x3 x4 e) 8 (fun i => ((nI (cntN b i), nI i), T)) (out := e (nI (cntN b 8), nI 8) T) (fun i k hi => ?_) (fun k => ?_) FU 0 (by omega) (by unfold FU; omega)
  · unfold f_X10_keeps_56b f_X10_keeps_82
    simp only
    rw [if_neg (nLe8 hi), if_pos (by rw [inb_nI (by omega)]; omega), nI_t (by omega), cntN]
    by_cases g : gI T 120 i = nI i
    · rw [if_pos g, if_pos ((hb i hi).mp g), lt_e]; simp only [a1]
    · rw [if_neg g, if_neg (fun h => g ((hb i hi).mpr h)), lt_e]; simp only [a1, Int32.add_zero, Nat.add_zero]
  · unfold f_X10_keeps_56b
    simp only
    rw [if_pos (show (8 : Int32) ≤ nI 8 by decide)]
theorem kpt_m {T : St} {c : Cv} {r : Rl} {l : Pth} {x : Nat} (ok : Cok c) (h : MX T c r) (hE : EMs c T l x) (hl : Pok c l) (p : Nat) : ∃ T', f_X11_kept (nI p) T = some (nI (kpt c r l p), T') ∧ oK T T' := by
  refine lp_ex (body := f_X11_kept_4b (nI p) (fun v8 S9 => some (v8.1, S9))) (Q := fun w => ∃ T', w = some (nI (kpt c r l p), T') ∧ oK T T') 8 (fun i v S => v = (nI (cntN (kpB c r l p) i), nI i) ∧ oK T S) (fun i k v S hi hI => ?_) (fun k v S hI => ?_) FU 0 _ T (by omega) (by unfold FU; omega) ⟨rfl, Sm.rf T⟩
  · obtain ⟨rfl, q⟩ := hI
    obtain ⟨T', g1, g2⟩ := cmo_m ok (h.1.o q.j (by omega) (by omega) (by omega)) (by omega) (by omega) (by omega) (h.2.o q.j) (hE.o q.j) hl (nI i) (nI p)
    refine ⟨_, T', ?_, rfl, q.tr g2⟩
    unfold f_X11_kept_4b f_X11_kept_30
    simp only
    rw [if_neg (nLe8 hi), g1, bd_e, cntN]
    by_cases g : cmo c r (nI p) l (nI i) = nI i
    · rw [if_pos g, if_pos (show kpB c r l p i = true from decide_eq_true g), show f_X11_flag 1 T' = some (1, T') from rfl, bd_e, lt_e, a1, a1]
    · rw [if_neg g, if_neg (show ¬ kpB c r l p i = true by unfold kpB; rw [decide_eq_false g]; simp), show f_X11_flag 0 T' = some (0, T') from rfl, bd_e, lt_e]; simp only [a1, Int32.add_zero, Nat.add_zero]
  · obtain ⟨rfl, q⟩ := hI
    unfold f_X11_kept_4b
    simp only
    rw [if_pos (show (8 : Int32) ≤ nI 8 by decide)]
    exact ⟨S, rfl, q⟩
def sumK (f : Nat → Nat) : Nat → Nat
  | 0 => 0
  | i + 1 => sumK f i + f i
def rowK (f : Nat → Nat) : Nat → List Int64
  | 0 => []
  | i + 1 => rowK f i ++ [(nI (f i)).toInt64]
theorem rowK_l (f : Nat → Nat) : ∀ n, (rowK f n).length = n := by
  intro n
  induction n with
  | zero => rfl
  | succ n ih => rw [rowK, List.length_append, ih]; rfl
theorem isRl {T : St} {c : Cv} {o : Nat} {r : Rl} (h : CX T c o r) : isRule (gI T 0 8).toNatClampNeg ∧ (gI T 0 8).toNatClampNeg = o := by
  obtain ⟨_, ⟨ho, _⟩, h3⟩ := h
  have : (gI T 0 8).toNatClampNeg = o := by rw [h3, nI_t (by omega)]
  exact ⟨by rw [this]; exact ho, this⟩
theorem eq_keeps : ∀ a1 a2 : Int32, EQ1 RelP (f_X10_keeps a1 a2) (f_X11_keeps a1 a2) := by
  intro x y
  apply qr
  intro S c o r hS ok hC hM
  by_cases he : echP c x y
  · obtain ⟨q, st, hq, hst, rfl, rfl, ho, hen⟩ := he
    have hl := pth_ok ok hst hq
    have hl1 := hl.1
    refine ⟨nI (sumK (kpt c r (pth c st q)) 6), some (rowK (kpt c r (pth c st q)) 6), fun l e => ?_, ?_, fun S1 hM1 q1 => ?_⟩
    · cases e; rw [rowK_l]; omega
    · obtain ⟨T1, g1, g2, g3⟩ := goes_y ok hC.1 hst hq ho hen
      unfold f_X10_keeps
      rw [g1, bd_e, if_neg (by decide), begin_e, bd_e]
      refine lp_ex (body := f_X10_keeps_26b _) (Q := fun w => AC w S (nI (sumK (kpt c r (pth c st q)) 6)) (some (rowK (kpt c r (pth c st q)) 6))) 6 (fun i v T => v = (nI (sumK (kpt c r (pth c st q)) i), nI i) ∧ QC S T ∧ ECs c T (pth c st q) (pen c st q) ∧ RwC T (rowK (kpt c r (pth c st q)) i)) (fun i k v T hi hI => ?_) (fun k v T hI => ?_) FU 0 _ _ (by omega) (by unfold FU; omega) ⟨rfl, g2.q.tr (q10 T1 0), g3.p e10, RwC.nil T1⟩
      · obtain ⟨rfl, w1, w2, w3⟩ := hI
        have hCT := hC.q w1
        obtain ⟨T2, s1, s2, s3⟩ := img_c ok hCT w2 hl (nI i)
        obtain ⟨T3, t1, t2, t3, t4⟩ := put_e (nI (kpt c r (pth c st q) i)).toInt64 (w3.o s2) (by rw [rowK_l]; omega)
        refine ⟨_, T3, ?_, rfl, (w1.tr s2.q).tr t2, (w2.o s2).p t4, t3⟩
        unfold f_X10_keeps_26b
        simp only
        rw [if_neg (show ¬ (6 : Int32) ≤ nI i by rw [lit, nLe (by omega) (by omega)]; omega), if_pos (isRl hCT).1, (isRl hCT).2, s1, bd_e, cnt_c (T := T2) (b := kpB c r (pth c st q) i) (fun v hv => by rw [s3 v hv]; unfold kpB; simp)]
        simp only
        show bd (f_X5_put (nI (kpt c r (pth c st q) i)).toInt64 T2) _ = _
        rw [t1, bd_e, lt_e, a1, nAdd]
        rfl
      · obtain ⟨rfl, w1, w2, w3⟩ := hI
        refine AC.y (S1 := T) ?_ w1 w3
        unfold f_X10_keeps_26b
        simp only
        rw [if_pos (show (6 : Int32) ≤ nI 6 by decide)]
    · have hM0 := hM1.q (q00 S1 0)
      obtain ⟨T1, g1, g2, g3⟩ := lays_m ok hM0.1 (by omega) (by omega) (by omega) hst hq ho
      unfold f_X11_keeps
      rw [lt_e, isE_y ok hM0.1 hst hq ho hen, bd_e, if_neg (by decide), g1, bd_e, lt_e]
      refine lp_ex (body := f_X11_keeps_40b _) (Q := fun w => AM w S1 (nI (sumK (kpt c r (pth c st q)) 6)) (some (rowK (kpt c r (pth c st q)) 6))) 6 (fun i v T => v = (nI (sumK (kpt c r (pth c st q)) i), nI i) ∧ QM S1 T ∧ EMs c T (pth c st q) (pen c st q) ∧ RwM T (rowK (kpt c r (pth c st q)) i)) (fun i k v T hi hI => ?_) (fun k v T hI => ?_) FU 0 _ _ (by omega) (by unfold FU; omega) ⟨rfl, ((q00 S1 0).tr g2.q).tr (q01 T1 0), g3.p e01, RwM.nil T1⟩
      · obtain ⟨rfl, w1, w2, w3⟩ := hI
        have hCT := hM1.q w1
        obtain ⟨T2, s1, s2⟩ := kpt_m ok hCT w2 hl i
        obtain ⟨T3, t1, t2⟩ := kpt_m ok (hCT.q s2.j.q) (w2.o s2.j) hl i
        obtain ⟨T4, u1, u2, u3, u4⟩ := ent_e (nI (kpt c r (pth c st q) i)).toInt64 ((w3.o s2.j).o t2.j) (by rw [rowK_l]; omega)
        refine ⟨_, T4, ?_, rfl, ((w1.tr s2.j.q).tr t2.j.q).tr u2, ((w2.o s2.j).o t2.j).p u4, u3⟩
        unfold f_X11_keeps_40b
        simp only
        rw [if_neg (show ¬ (6 : Int32) ≤ nI i by rw [lit, nLe (by omega) (by omega)]; omega), s1, bd_e, lt_e, t1, bd_e, u1, bd_e, a1, nAdd]
        rfl
      · obtain ⟨rfl, w1, w2, w3⟩ := hI
        refine AM.y (S1 := T) ?_ w1 w3
        unfold f_X11_keeps_40b
        simp only
        rw [if_pos (show (6 : Int32) ≤ nI 6 by decide)]
  · refine ⟨-1, none, (fun l e => by cases e), ?_, fun S1 hM1 q1 => ?_⟩
    · refine AC.n (S1 := S) ?_ (Sm.rf S)
      unfold f_X10_keeps
      rw [goes_n ok hC.1 he, bd_e, if_pos z00]
    · refine AM.n (S1 := sI S1 122 0 0) ?_ (q00 S1 0)
      unfold f_X11_keeps
      rw [lt_e, isE_n ok (hM1.q (q00 S1 0)).1 he, bd_e, if_pos z00]
