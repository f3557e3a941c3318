/-! fits -/
def alN (p : Nat → Bool) : Nat → Bool
  | 0 => true
  | i + 1 => alN p i && p i
theorem al_t {p : Nat → Bool} : ∀ n, (∀ j, j < n → p j = true) → alN p n = true := by
  intro n
  induction n with
  | zero => intro _; rfl
  | succ n ih => intro h; rw [alN, ih (fun j hj => h j (by omega)), h n (by omega)]; rfl
theorem al_f {p : Nat → Bool} {j : Nat} : ∀ n, j < n → p j = false → alN p n = false := by
  intro n
  induction n with
  | zero => intro h; omega
  | succ n ih =>
    intro h h2
    rw [alN]
    by_cases e : j = n
    · rw [← e, h2]; simp
    · rw [ih (by omega) h2]; rfl
theorem al_l (p : Nat → Bool) (n : Nat) : alN p n = decide (n ≤ ldN p n) := by
  obtain ⟨h1, h2, h3⟩ := ld_a p n
  by_cases g : n ≤ ldN p n
  · rw [decide_eq_true g]; exact al_t n (fun j hj => h2 j (by omega))
  · rw [decide_eq_false g]; exact al_f n (by omega) (h3 (by omega))
def agB (c : Cv) (k : Nat) (w v : Int32) : Bool := if w = nI 0 then decide (¬ nI (cd c k) < v) else if w = nI 1 then endB c v k else if w = nI 2 then decide (nI (cn c k) = v) else if w = nI 3 then decide ((if (co c).testBit k = true then nI 1 else nI 0) = v) else decide (¬ v < nI (cw c k))
theorem fl_b {c : Prop} {dc : Decidable c} {S : St} : (@ite (Option (Int32 × St)) c dc (some ((1 : Int32), S)) (some ((0 : Int32), S))) = some (flI (@decide c dc), S) := by
  by_cases h : c
  · rw [if_pos h, decide_eq_true h]; rfl
  · rw [if_neg h, decide_eq_false h]; rfl
theorem fl_n {c : Prop} {dc : Decidable c} {S : St} : (@ite (Option (Int32 × St)) c dc (some ((0 : Int32), S)) (some ((1 : Int32), S))) = some (flI (decide (¬ c)), S) := by
  by_cases h : c
  · rw [if_pos h, decide_eq_false (fun q => q h)]; rfl
  · rw [if_neg h, decide_eq_true h]; rfl
theorem flI_z (b : Bool) : (flI b = 0) = (b = false) := by cases b <;> decide
theorem flI_w (b : Bool) : flI b = 0 ∨ flI b = 1 := by cases b <;> decide
theorem ite_fl {c : Prop} {dc : Decidable c} : (@ite Int32 c dc (nI 1) (nI 0)) = flI (@decide c dc) := by
  by_cases h : c
  · rw [if_pos h, decide_eq_true h]; rfl
  · rw [if_neg h, decide_eq_false h]; rfl
theorem agr_c {T : St} {c : Cv} (ok : Cok c) (h : CC T c) {k : Nat} (hk : k < cm c) {w v : Int32} (hw : w = nI 3 → v = 0 ∨ v = 1) : f_X1_agrees (nI k) w v T = some (flI (agB c k w v), T) := by
  have h12 := ok12 ok
  obtain ⟨e1, e2, e3, e4, e5⟩ := h.2.1 k hk
  have wi : inb (nI k) 12 := by rw [inb_nI (by omega)]; omega
  unfold f_X1_agrees agB f_X1_agrees_104
  by_cases g0 : w = nI 0
  · rw [if_pos g0, if_pos (show w = 0 from g0), if_pos wi, nI_t (by omega), e3]; exact fl_n
  · rw [if_neg g0, if_neg (show ¬ w = 0 from g0)]
    by_cases g1 : w = nI 1
    · rw [if_pos g1, if_pos (show w = 1 from g1), isEnd_c ok h hk, bd_e, ite_fl, if_pos (flI_w _)]; rfl
    · rw [if_neg g1, if_neg (show ¬ w = 1 from g1)]
      by_cases g2 : w = nI 2
      · rw [if_pos g2, if_pos (show w = 2 from g2), if_pos wi, nI_t (by omega), e4]; exact fl_b
      · rw [if_neg g2, if_neg (show ¬ w = 2 from g2)]
        by_cases g3 : w = nI 3
        · rw [if_pos g3, if_pos (show w = 3 from g3), isOpen_c ok h (by omega), bd_e]
          rcases hw g3 with rfl | rfl
          · rw [if_neg (show ¬ (0 : Int32) = 1 by decide)]; exact fl_b
          · rw [if_pos (show (1 : Int32) = 1 from rfl)]; exact fl_b
        · rw [if_neg g3, if_neg (show ¬ w = 3 from g3), if_pos wi, nI_t (by omega), e5]; exact fl_n
theorem agr_m {T : St} {c : Cv} (ok : Cok c) (h : CM T 126 c) {k : Nat} (hk : k < cm c) {w v : Int32} : f_X11_isSo (nI k) w v T = some (flI (agB c k w v), T) := by
  have h12 := ok12 ok
  have hO := okO ok
  obtain ⟨e1, e2, e3, e4, e5⟩ := h.2.1 k hk
  have k1 : (12 : Int32) + nI k = nI (12 + k) := nAdd 12 k
  have k2 : (24 : Int32) + nI k = nI (24 + k) := nAdd 24 k
  unfold f_X11_isSo agB
  by_cases g0 : w = nI 0
  · rw [if_pos g0, if_pos (show w = 0 from g0), if_pos (show inb (nI k) 39 by rw [inb_nI (by omega)]; omega), nI_t (by omega), e3]; exact fl_n
  · rw [if_neg g0, if_neg (show ¬ w = 0 from g0)]
    by_cases g1 : w = nI 1
    · rw [if_pos g1, if_pos (show w = 1 from g1), isEnd_m ok h hk, bd_e, ite_fl, if_pos (flI_w _)]; rfl
    · rw [if_neg g1, if_neg (show ¬ w = 1 from g1)]
      by_cases g2 : w = nI 2
      · rw [if_pos g2, if_pos (show w = 2 from g2), k1, if_pos (show inb (nI (12 + k)) 39 by rw [inb_nI (by omega)]; omega), nI_t (by omega), e4]; exact fl_b
      · rw [if_neg g2, if_neg (show ¬ w = 2 from g2)]
        by_cases g3 : w = nI 3
        · rw [if_pos g3, if_pos (show w = 3 from g3), h.2.2.1, has_m T (by omega) (by omega), bd_e, ite_fl, flg_flI, bd_e]; exact fl_b
        · rw [if_neg g3, if_neg (show ¬ w = 3 from g3), k2, if_pos (show inb (nI (24 + k)) 39 by rw [inb_nI (by omega)]; omega), nI_t (by omega), e5]; exact fl_n
/-- what was told -/
def FaC (T : St) (q : Nat) (w v : Nat → Int32) : Prop := q ≤ 12 ∧ gI T 101 3 = nI q ∧ ∀ i, i < q → gI T 102 i = w i ∧ gI T 103 i = v i ∧ (w i = nI 3 → v i = 0 ∨ v i = 1)
def FaM (T : St) (q : Nat) (w v : Nat → Int32) : Prop := q ≤ 12 ∧ gI T 122 39 = nI q ∧ ∀ i, i < q → gI T 146 i = w i ∧ gI T 147 i = v i
def faB (c : Cv) (q : Nat) (w v : Nat → Int32) (k : Nat) : Bool := alN (fun i => agB c k (w i) (v i)) q
theorem all_c {T : St} {c : Cv} {q : Nat} {w v : Nat → Int32} (ok : Cok c) (h : CC T c) (hF : FaC T q w v) {k : Nat} (hk : k < cm c) : f_X1_fitsAll (nI k) T = some (flI (faB c q w v k), T) := by
  obtain ⟨f1, f2, f3⟩ := hF
  obtain ⟨h1, h2, h3⟩ := ld_a (fun i => agB c k (w i) (v i)) q
  unfold faB
  rw [al_l]
  refine lp_for (body := f_X1_fitsAll_2b (nI k) (fun v6 S7 => some ((1 : Int32), S7))) (ldN (fun i => agB c k (w i) (v i)) q) (fun i => (nI i, T)) (out := some (flI (decide (q ≤ ldN (fun i => agB c k (w i) (v i)) q)), T)) (fun i kk hi => ?_) (fun kk => ?_) FU 0 (by omega) (by unfold FU; omega)
  · obtain ⟨a, b, d⟩ := f3 i (by omega)
    have wi : inb (nI i) 12 := by rw [inb_nI (by omega)]; omega
    unfold f_X1_fitsAll_2b
    simp only
    rw [f2, if_neg (by rw [nLe (by omega) (by omega)]; omega)]
    simp only [if_pos wi, nI_t (show i < 2147483648 by omega), a, b]
    rw [agr_c ok h hk d, bd_e, show agB c k (w i) (v i) = true from h2 i hi, if_neg (show ¬ flI true = 0 by decide), a1]
  · unfold f_X1_fitsAll_2b
    simp only
    generalize hL : ldN (fun i => agB c k (w i) (v i)) q = L at *
    by_cases g : q ≤ L
    · rw [f2, if_pos (by rw [nLe (by omega) (by omega)]; omega), decide_eq_true g]; rfl
    · obtain ⟨a, b, d⟩ := f3 L (by omega)
      have wi : inb (nI L) 12 := by rw [inb_nI (by omega)]; omega
      rw [f2, if_neg (by rw [nLe (by omega) (by omega)]; omega), decide_eq_false g]
      simp only [if_pos wi, nI_t (show L < 2147483648 by omega), a, b]
      rw [agr_c ok h hk d, bd_e, show agB c k (w L) (v L) = false from h3 (by omega), if_pos (show flI false = 0 from rfl)]; rfl
theorem fit_c {T : St} {c : Cv} {q : Nat} {w v : Nat → Int32} (ok : Cok c) (h : CC T c) (hF : FaC T q w v) : f_X1_fittingPassages T = some (nI (orN (faB c q w v) (cm c)), T) := by
  have h12 := ok12 ok
  refine lp_for (body := f_X1_fittingPassages_4b (fun v5 S6 => some (v5.1, S6))) (cm c) (fun i => ((nI (orN (faB c q w v) i), nI i), T)) (out := some (nI (orN (faB c q w v) (cm c)), T)) (fun i k hi => ?_) (fun k => ?_) FU 0 (by omega) (by unfold FU; omega)
  · unfold f_X1_fittingPassages_4b f_X1_fittingPassages_29
    simp only
    rw [h.1, if_neg (by rw [nLe (by omega) (by omega)]; omega), all_c ok h hF hi, bd_e, ← orN_s (p := faB c q w v) (n := i) (by omega)]
    cases g : faB c q w v i with
    | true => rw [if_neg (show ¬ flI true = 0 by decide), lt_e, if_pos rfl, a1]; rfl
    | false => rw [if_pos (show flI false = 0 from rfl), if_neg (by simp), a1]
  · unfold f_X1_fittingPassages_4b
    simp only
    rw [h.1, if_pos (by rw [nLe (by omega) (by omega)]; omega)]
theorem fiti_m {T : St} {c : Cv} {q : Nat} {w v : Nat → Int32} (ok : Cok c) (h : CM T 126 c) (hF : FaM T q w v) {k : Nat} (hk : k < cm c) (x1 : Int32) (e : Int32 × Int32 → St → Option (Int32 × St)) : lp (f_X11_fitting_17b x1 (nI k) e) FU (1, 0) T = e (flI (faB c q w v k), nI q) T := by
  obtain ⟨f1, f2, f3⟩ := hF
  refine lp_for (body := f_X11_fitting_17b x1 (nI k) e) q (fun i => ((flI (faB c i w v k), nI i), T)) (out := e (flI (faB c q w v k), nI q) T) (fun i kk hi => ?_) (fun kk => ?_) FU 0 (by omega) (by unfold FU; omega)
  · obtain ⟨a, b⟩ := f3 i hi
    have wi : inb (nI i) 12 := by rw [inb_nI (by omega)]; omega
    have es : faB c (i + 1) w v k = (faB c i w v k && agB c k (w i) (v i)) := rfl
    unfold f_X11_fitting_17b f_X11_fitting_56 f_X11_fitting_57
    simp only
    rw [f2, if_neg (by rw [nLe (by omega) (by omega)]; omega), es]
    simp only [if_pos wi, nI_t (show i < 2147483648 by omega), a, b]
    cases g : faB c i w v k with
    | false => rw [if_pos (show flI false = 0 from rfl), a1]; rfl
    | true =>
      rw [if_neg (show ¬ flI true = 0 by decide), agr_m ok h hk, bd_e, a1]
      cases g2 : agB c k (w i) (v i) with
      | true => rw [if_neg (show ¬ flI true = 0 by decide)]; rfl
      | false => rw [if_pos (show flI false = 0 from rfl)]; rfl
  · unfold f_X11_fitting_17b
    simp only
    rw [f2, if_pos (by rw [nLe (by omega) (by omega)]; omega)]
theorem fit_m {T : St} {c : Cv} {q : Nat} {w v : Nat → Int32} (ok : Cok c) (h : CM T 126 c) (hF : FaM T q w v) : f_X11_fitting T = some (nI (orN (faB c q w v) (cm c)), T) := by
  have h12 := ok12 ok
  refine lp_for (body := f_X11_fitting_4b (fun v9 S10 => some (v9.1, S10))) (cm c) (fun i => ((nI (orN (faB c q w v) i), nI i), T)) (out := some (nI (orN (faB c q w v) (cm c)), T)) (fun i k hi => ?_) (fun k => ?_) FU 0 (by omega) (by unfold FU; omega)
  · unfold f_X11_fitting_4b f_X11_fitting_76
    simp only
    rw [h.1, if_neg (by rw [nLe (by omega) (by omega)]; omega)]
    refine (fiti_m ok h hF hi _ _).trans ?_
    simp only [lt_e]
    rw [← orN_s (p := faB c q w v) (n := i) (by omega)]
    cases g : faB c q w v i with
    | true => rw [if_neg (show ¬ flI true = 0 by decide), if_pos rfl, a1]; rfl
    | false => rw [if_pos (show flI false = 0 from rfl), if_neg (by simp), a1, Int32.or_zero]
  · unfold f_X11_fitting_4b
    simp only
    rw [h.1, if_pos (by rw [nLe (by omega) (by omega)]; omega)]
theorem RelP.fa {S : St} (h : RelP S) : ∃ q w v, FaC S q w v ∧ FaM S q w v := by
  obtain ⟨q, h1, h2, h3, h4⟩ := h.2.2.2.2.1
  exact ⟨q, gI S 102, gI S 103, ⟨h1, h2, fun i hi => ⟨rfl, rfl, (h4 i hi).2.2.2⟩⟩, h1, h3, fun i hi => ⟨(h4 i hi).1.symm, (h4 i hi).2.1.symm⟩⟩
theorem FaM.c {S T : St} {q : Nat} {w v : Nat → Int32} (h : FaM S q w v) (hq : QC S T) : FaM T q w v := by
  obtain ⟨h1, h2, h3⟩ := h
  refine ⟨h1, (hq.1 122 39 rfl).trans h2, fun i hi => ?_⟩
  rw [hq.1 146 i rfl, hq.1 147 i rfl]; exact h3 i hi
theorem eq_fits : EQ1 RelP f_X10_fits f_X11_fits := by
  apply qr
  intro S c o r hS ok hC hM
  obtain ⟨q, w, v, hF, hG⟩ := hS.fa
  refine ⟨nI (orN (faB c q w v) (cm c)), some [(bC (nI (orN (faB c q w v) (cm c)))).toInt64], (fun l e => by cases e; simp), ?_, fun S1 hM1 q1 => ?_⟩
  · obtain ⟨T2, s1, s2, s3, s4⟩ := put_e (bC (nI (orN (faB c q w v) (cm c)))).toInt64 (RwC.nil S) (by simp)
    refine AC.y (S1 := T2) ?_ ((q10 S 0).tr s2) s3
    unfold f_X10_fits
    rw [fit_c ok hC.1 hF, bd_e, begin_e, bd_e, bc_e, bd_e, s1, bd_e]
  · obtain ⟨T2, s1, s2, s3, s4⟩ := ent_e (bC (nI (orN (faB c q w v) (cm c)))).toInt64 (RwM.nil (sI S1 122 0 0)) (by simp)
    refine AM.y (S1 := T2) ?_ (((q00 S1 0).tr (q01 _ 0)).tr s2) s3
    unfold f_X11_fits
    rw [lt_e, fit_m ok (hM1.q (q00 S1 0)).1 (by have hh := hG.c q1; exact hh), bd_e, lt_e, bc_e, bd_e, s1, bd_e]
/-! next -/
theorem bC_all : ∀ a, a < 64 → ∀ b, b < 64 → bC (nI (64 * a + b)) = nI (cntN (fun i => (64 * a + b).testBit i) 12) := by decide +kernel
theorem bC_c {x : Nat} (h : x < 4096) : bC (nI x) = nI (cntN (fun i => x.testBit i) 12) := by
  have := bC_all (x / 64) (by omega) (x % 64) (by omega)
  rw [show 64 * (x / 64) + x % 64 = x by omega] at this
  exact this
theorem cnt_up {f : Nat → Bool} {n : Nat} : ∀ d, (∀ i, n ≤ i → i < n + d → f i = false) → cntN f (n + d) = cntN f n := by
  intro d
  induction d with
  | zero => intro _; rfl
  | succ d ih =>
    intro h
    rw [show n + (d + 1) = (n + d) + 1 by omega, cntN, ih (fun i a b => h i a (by omega)), h (n + d) (by omega) (by omega)]
    rfl
theorem cnt_mo {f g : Nat → Bool} : ∀ n, (∀ i, i < n → f i = true → g i = true) → cntN f n ≤ cntN g n := by
  intro n
  induction n with
  | zero => intro _; exact Nat.le_refl _
  | succ n ih =>
    intro h
    rw [cntN, cntN]
    have := ih (fun i hi => h i (by omega))
    by_cases g1 : f n = true
    · rw [if_pos g1, if_pos (h n (by omega) g1)]; omega
    · rw [if_neg g1]; omega
def nxY (c : Cv) (b x : Nat) : Nat := cntN (fun i => b.testBit i && endB c (nI x) i) (cm c)
def nxT (c : Cv) (b : Nat) : Nat := cntN (fun i => b.testBit i) (cm c)
def nxV (c : Cv) (b x : Nat) : Nat := max (nxY c b x) (nxT c b - nxY c b x)
theorem nx_le (c : Cv) (b x : Nat) : nxY c b x ≤ nxT c b ∧ nxT c b ≤ cm c := ⟨cnt_mo _ (fun i _ h => by simp at h; exact h.1), cnt_le _ _⟩
theorem bC_e {c : Cv} (ok : Cok c) {b : Nat} (hb : b < 2 ^ cm c) : bC (nI b) = nI (nxT c b) := by
  have h12 := ok12 ok
  have := p12 h12
  rw [bC_c (by omega)]
  unfold nxT
  congr 1
  have := cnt_up (f := fun i => b.testBit i) (n := cm c) (12 - cm c) (fun i h1 h2 => Nat.testBit_lt_two_pow (Nat.lt_of_lt_of_le hb (Nat.pow_le_pow_right (by omega) h1)))
  rw [show cm c + (12 - cm c) = 12 by omega] at this
  exact this
theorem bC_y {c : Cv} (ok : Cok c) {b x : Nat} (hb : b < 2 ^ cm c) : bC (nI (b &&& orN (endB c (nI x)) (cm c))) = nI (nxY c b x) := by
  have hl : b &&& orN (endB c (nI x)) (cm c) < 2 ^ cm c := by
    have := Nat.and_le_left (n := b) (m := orN (endB c (nI x)) (cm c))
    omega
  rw [bC_e ok hl]
  congr 1
  apply cnt_cg
  intro i hi
  rw [Nat.testBit_and, orN_tb, decide_eq_true hi]; rfl
def nxS (c : Cv) (b x : Nat) (a : Option (Nat × Nat)) : Option (Nat × Nat) := match a with
  | none => some (x, nxV c b x)
  | some (y, l) => if nxV c b x < l then some (x, nxV c b x) else some (y, l)
def nxB : Option (Nat × Nat) → Int32
  | none => -1
  | some a => nI a.1
def nxL (d : Nat) : Option (Nat × Nat) → Nat
  | none => d
  | some a => a.2
def nxA (c : Cv) (b : Nat) : Nat → Option (Nat × Nat) := itN (nxS c b) none
theorem nxV_le {c : Cv} (ok : Cok c) (b x : Nat) : nxV c b x ≤ 12 := by
  have := nx_le c b x
  have := ok12 ok
  unfold nxV; omega
theorem nxA_le {c : Cv} (ok : Cok c) (b : Nat) : ∀ i a, nxA c b i = some a → a.2 ≤ 12 := by
  intro i
  induction i with
  | zero => intro a h; cases h
  | succ i ih =>
    intro a h
    have e : nxA c b (i + 1) = nxS c b i (nxA c b i) := rfl
    rw [e] at h
    cases g : nxA c b i with
    | none => rw [g, nxS] at h; cases h; exact nxV_le ok b i
    | some z =>
      rw [g] at h
      obtain ⟨y, l⟩ := z
      simp only [nxS] at h
      split at h
      · cases h; exact nxV_le ok b i
      · cases h; exact ih _ g
theorem nxs_c {c : Cv} (ok : Cok c) (b i d : Nat) (hd : 13 ≤ d) (hd2 : d < 2147483648) (a : Option (Nat × Nat)) (ha : ∀ z, a = some z → z.2 ≤ 12) : (nxL d a ≤ nxV c b i → nxB (nxS c b i a) = nxB a ∧ nxL d (nxS c b i a) = nxL d a) ∧ (¬ nxL d a ≤ nxV c b i → nxB (nxS c b i a) = nI i ∧ nxL d (nxS c b i a) = nxV c b i) := by
  have hv := nxV_le ok b i
  cases a with
  | none =>
    refine ⟨fun h => ?_, fun _ => ⟨rfl, rfl⟩⟩
    change d ≤ _ at h; omega
  | some z =>
    obtain ⟨y, l⟩ := z
    refine ⟨fun h => ?_, fun h => ?_⟩
    · change l ≤ _ at h
      have e : nxS c b i (some (y, l)) = some (y, l) := by simp only [nxS]; rw [if_neg (by omega)]
      rw [e]; exact ⟨rfl, rfl⟩
    · change ¬ l ≤ _ at h
      have e : nxS c b i (some (y, l)) = some (i, nxV c b i) := by simp only [nxS]; rw [if_pos (by omega)]
      rw [e]; exact ⟨rfl, rfl⟩
theorem nx_lt {c : Cv} (ok : Cok c) (b i d : Nat) (hd : 13 ≤ d) (hd2 : d < 2147483648) : nxL d (nxA c b i) < 2147483648 := by
  cases e : nxA c b i with
  | none => exact hd2
  | some z => have := nxA_le ok b i z e; show z.2 < _; omega
def mnN (a b : Nat) : Nat := min a b
theorem mnNI {a b : Nat} (ha : a < 2147483648) (hb : b < 2147483648) : mnI (nI a) (nI b) = nI (min a b) := by
  unfold mnI
  by_cases g : b < a
  · rw [if_pos (by rw [nLt hb ha]; exact g), Nat.min_eq_right (by omega)]
  · rw [if_neg (by rw [nLt hb ha]; exact g), Nat.min_eq_left (by omega)]
theorem nxi_m {T : St} {c : Cv} (ok : Cok c) (h : CM T 126 c) {b x : Nat} (hb : b < 2 ^ cm c) (x2 x3 : Int32) (e : Int32 × Int32 → St → Option (Int32 × St)) : lp (f_X11_next_39b (nI b) x2 x3 (nI x) e) FU (0, 0) T = e (nI (nxY c b x), nI (cm c)) T := by
  have h12 := ok12 ok
  have hp := p12 h12
  refine lp_for (body := f_X11_next_39b (nI b) x2 x3 (nI x) e) (cm c) (fun i => ((nI (cntN (fun i => b.testBit i && endB c (nI x) i) i), nI i), T)) (out := e (nI (nxY c b x), nI (cm c)) T) (fun i k hi => ?_) (fun k => ?_) FU 0 (by omega) (by unfold FU; omega)
  · unfold f_X11_next_39b f_X11_next_74 f_X11_next_75
    simp only
    rw [h.1, if_neg (by rw [nLe (by omega) (by omega)]; omega), has_m T (by omega) (by omega), bd_e, cntN]
    simp only [fl3z]
    cases g1 : b.testBit i with
    | false =>
      rw [if_neg (by simp), if_neg (by simp), show f_X11_flag 0 T = some (0, T) from rfl, bd_e, lt_e]; simp only [a1, Int32.add_zero, Nat.add_zero]
    | true =>
      rw [if_pos rfl, isEnd_m ok h hi, bd_e]
      simp only [fl3z]
      by_cases g2 : nI (ca c i) = nI x ∨ nI (cb c i) = nI x
      · have gb : endB c (nI x) i = true := decide_eq_true g2
        rw [if_pos g2, gb, show f_X11_flag 1 T = some (1, T) from rfl, bd_e, lt_e, if_pos (show (true && true) = true from rfl)]; simp only [a1]
      · have gb : endB c (nI x) i = false := decide_eq_false g2
        rw [if_neg g2, gb, show f_X11_flag 0 T = some (0, T) from rfl, bd_e, lt_e, if_neg (by simp)]; simp only [a1, Int32.add_zero, Nat.add_zero]
  · unfold f_X11_next_39b
    simp only
    rw [h.1, if_pos (by rw [nLe (by omega) (by omega)]; omega)]
    rfl
theorem eq_next : EQ1 RelP f_X10_next f_X11_next := by
  apply qr
  intro S c o r hS ok hC hM
  have h12 := ok12 ok
  obtain ⟨q, w, v, hF, hG⟩ := hS.fa
  have hb := orN_lt (faB c q w v) (cm c)
  generalize hB : orN (faB c q w v) (cm c) = b at hb
  have hp := p12 h12
  have kC : f_X1_fittingPassages S = some (nI b, S) := by rw [← hB]; exact fit_c ok hC.1 hF
  have kM : ∀ S1, MX S1 c r → QC S S1 → f_X11_fitting (sI S1 122 0 0) = some (nI b, sI S1 122 0 0) := by
    intro S1 hM1 q1
    rw [← hB]; exact fit_m ok (hM1.q (q00 S1 0)).1 (by have hh := hG.c q1; exact hh)
  by_cases hz : b = 0
  · refine ⟨-2, none, (fun l e => by cases e), ?_, fun S1 hM1 q1 => ?_⟩
    · refine AC.n (S1 := S) ?_ (Sm.rf S)
      unfold f_X10_next
      rw [kC, bd_e, hz, if_pos z00]
    · refine AM.n (S1 := sI S1 122 0 0) ?_ (q00 S1 0)
      unfold f_X11_next
      rw [lt_e, kM S1 hM1 q1, bd_e, hz, if_pos z00]
  · have hz' : ¬ nI b = 0 := by rw [lit, nEq (by omega) (by omega)]; exact hz
    have nm : ∀ i, nxA c b (i + 1) ≠ none := by
      intro i e
      have e2 : nxA c b (i + 1) = nxS c b i (nxA c b i) := rfl
      rw [e2] at e
      cases g : nxA c b i with
      | none => rw [g] at e; cases e
      | some z => rw [g] at e; obtain ⟨y, l⟩ := z; simp only [nxS] at e; split at e <;> cases e
    have dd : nxL 13 (nxA c b 8) = nxL 1000000 (nxA c b 8) := by
      cases e : nxA c b 8 with
      | none => exact absurd e (nm 7)
      | some z => rfl
    refine ⟨nxB (nxA c b 8), some [(nI (nxL 13 (nxA c b 8))).toInt64], (fun l e => by cases e; simp), ?_, fun S1 hM1 q1 => ?_⟩
    · obtain ⟨T2, s1, s2, s3, s4⟩ := put_e (nI (nxL 13 (nxA c b 8))).toInt64 (RwC.nil S) (by simp)
      refine AC.y (S1 := T2) ?_ ((q10 S 0).tr s2) s3
      unfold f_X10_next
      rw [kC, bd_e, if_neg hz']
      refine lp_for (body := f_X10_next_23b (nI b) (fun v14 S15 => bd (f_X5_begin S15) (fun r16 S17 => bd (f_X5_put v14.2.1.toInt64 S17) (fun r19 S20 => some (v14.1, S20))))) 8 (fun i => ((nxB (nxA c b i), nI (nxL 13 (nxA c b i)), nI i), S)) (out := some (nxB (nxA c b 8), T2)) (fun i k hi => ?_) (fun k => ?_) FU 0 (by omega) (by unfold FU; omega)
      · unfold f_X10_next_23b f_X10_next_72
        simp only
        have hn := nx_le c b i
        have hv := nxV_le ok b i
        have hlt := nx_lt ok b i 13 (by omega) (by omega)
        have em : mxI (nI (nxY c b i)) (nI (nxT c b) - nI (nxY c b i)) = nI (nxV c b i) := by rw [nSub hn.1, mxNI (by omega) (by omega)]; rfl
        rw [if_neg (nLe8 hi), endingAt_c ok hC.1, bd_e, nAnd, bc_e, bd_e, bC_y ok hb, bc_e, bd_e, bC_e ok hb, lt_e, em]
        obtain ⟨x1, x2⟩ := nxs_c ok b i 13 (by omega) (by omega) (nxA c b i) (nxA_le ok b i)
        have es : nxA c b (i + 1) = nxS c b i (nxA c b i) := rfl
        rw [es]
        by_cases g : nxL 13 (nxA c b i) ≤ nxV c b i
        · rw [if_pos (by rw [nLe (by omega) (by omega)]; exact g), (x1 g).1, (x1 g).2, a1]
        · rw [if_neg (by rw [nLe (by omega) (by omega)]; exact g), (x2 g).1, (x2 g).2, a1]
      · unfold f_X10_next_23b
        rw [if_pos (show (8 : Int32) ≤ nI 8 by decide)]
        dsimp only
        rw [begin_e, bd_e, s1, bd_e]
    · obtain ⟨T2, s1, s2, s3, s4⟩ := ent_e (nI (nxL 13 (nxA c b 8))).toInt64 (RwM.nil (sI S1 122 0 0)) (by simp)
      refine AM.y (S1 := T2) ?_ (((q00 S1 0).tr (q01 _ 0)).tr s2) s3
      have hM0 := (hM1.q (q00 S1 0)).1
      unfold f_X11_next
      rw [lt_e, kM S1 hM1 q1, bd_e, if_neg hz']
      refine lp_for (body := f_X11_next_26b (nI b) (fun v22 S23 => lt (sI S23 122 1 (0 : Int32)) (fun S24 => bd (f_X11_enters v22.2.1.toInt64 S24) (fun r25 S26 => some (v22.1, S26))))) 8 (fun i => ((nxB (nxA c b i), nI (nxL 1000000 (nxA c b i)), nI i), sI S1 122 0 0)) (out := some (nxB (nxA c b 8), T2)) (fun i k hi => ?_) (fun k => ?_) FU 0 (by omega) (by unfold FU; omega)
      · unfold f_X11_next_26b f_X11_next_113
        simp only
        have hn := nx_le c b i
        have hv := nxV_le ok b i
        have hlt := nx_lt ok b i 1000000 (by omega) (by omega)
        have em : mxI (nI (nxY c b i)) (nI (nxT c b) - nI (nxY c b i)) = nI (nxV c b i) := by rw [nSub hn.1, mxNI (by omega) (by omega)]; rfl
        rw [if_neg (nLe8 hi)]
        refine (nxi_m ok hM0 hb _ _ _).trans ?_
        simp only
        rw [bc_e, bd_e, bC_e ok hb, lt_e, em]
        obtain ⟨x1, x2⟩ := nxs_c ok b i 1000000 (by omega) (by omega) (nxA c b i) (nxA_le ok b i)
        have es : nxA c b (i + 1) = nxS c b i (nxA c b i) := rfl
        rw [es]
        by_cases g : nxL 1000000 (nxA c b i) ≤ nxV c b i
        · rw [if_pos (by rw [nLe (by omega) (by omega)]; exact g), (x1 g).1, (x1 g).2, lt_e, mnNI (by omega) (by omega), Nat.min_eq_left g, a1]
        · rw [if_neg (by rw [nLe (by omega) (by omega)]; exact g), (x2 g).1, (x2 g).2, lt_e, mnNI (by omega) (by omega), Nat.min_eq_right (by omega), a1]
      · unfold f_X11_next_26b
        rw [if_pos (show (8 : Int32) ≤ nI 8 by decide)]
        dsimp only
        rw [lt_e, ← dd, s1, bd_e]
