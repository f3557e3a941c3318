/-! hints: longs -/
def nL (a : Nat) : Int64 := Int64.ofNat a
theorem nL_int {a : Nat} (h : a < 9223372036854775808) : (nL a).toInt = (a : Int) := Int64.toInt_ofNat_of_lt (by omega)
theorem nL_add (a b : Nat) : nL a + nL b = nL (a + b) := (Int64.ofNat_add a b).symm
theorem nL_mul (a b : Nat) : nL a * nL b = nL (a * b) := (Int64.ofNat_mul a b).symm
theorem l_eq {a b : Int64} : a = b ↔ a.toInt = b.toInt := Int64.toInt_inj.symm
theorem nL_i {a : Nat} (h : a < 2147483648) : (nI a).toInt64 = nL a := by
  rw [l_eq, Int32.toInt_toInt64, nI_int h, nL_int (by omega)]
theorem nL_eq {a b : Nat} (ha : a < 9223372036854775808) (hb : b < 9223372036854775808) : (nL a = nL b) = (a = b) := by
  rw [l_eq, nL_int ha, nL_int hb]; apply propext; omega
theorem nL_div {a b : Nat} (ha : a < 9223372036854775808) (hb : b < 9223372036854775808) : nL a / nL b = nL (a / b) := by
  have h := Nat.div_le_self a b
  rw [l_eq, Int64.toInt_div, nL_int ha, nL_int hb, nL_int (by omega)]
  have e : ((a : Int).tdiv (b : Int)) = ((a / b : Nat) : Int) := by
    rw [Int.tdiv_eq_ediv_of_nonneg (by omega)]; rfl
  rw [e]
  generalize a / b = q at h
  apply Int.bmod_eq_of_le <;> omega
theorem nL_rem {a b : Nat} (ha : a < 9223372036854775808) (hb : b < 9223372036854775808) : nL a - nL a / nL b * nL b = nL (a % b) := by
  rw [nL_div ha hb, nL_mul]
  have h := Nat.div_add_mod a b
  have e : nL a = nL (a % b) + nL (a / b * b) := by
    rw [nL_add]; congr 1; rw [Nat.mul_comm]; omega
  rw [e, Int64.add_sub_cancel]
/-! the common divisor -/
def euN : Nat → Nat → Nat → Nat
  | 0, a, _ => a
  | n + 1, a, b => if b = 0 then a else euN n b (a % b)
def fnN : Nat → Nat → Nat → Prop
  | 0, _, b => b = 0
  | n + 1, a, b => b = 0 ∨ fnN n b (a % b)
theorem fn_k : ∀ k a b, b < 2 ^ k → fnN (2 * k) a b := by
  intro k
  induction k with
  | zero => intro a b h; show b = 0; have : 2 ^ 0 = 1 := rfl; omega
  | succ k ih =>
    intro a b h
    show b = 0 ∨ (a % b = 0 ∨ fnN (2 * k) (a % b) (b % (a % b)))
    by_cases hb : b = 0
    · exact Or.inl hb
    · refine Or.inr ?_
      by_cases hr : a % b = 0
      · exact Or.inl hr
      · refine Or.inr (ih _ _ ?_)
        have h1 : a % b < b := Nat.mod_lt _ (by omega)
        have h2 : b % (a % b) < a % b := Nat.mod_lt _ (by omega)
        have h3 := Nat.div_add_mod b (a % b)
        have h4 : 1 ≤ b / (a % b) := (Nat.le_div_iff_mul_le (by omega)).mpr (by omega)
        have h5 : a % b ≤ a % b * (b / (a % b)) := Nat.le_mul_of_pos_right _ (by omega)
        have h6 : 2 ^ (k + 1) = 2 * 2 ^ k := by omega
        omega
theorem fn_mo : ∀ n a b, fnN n a b → fnN (n + 1) a b := by
  intro n
  induction n with
  | zero => intro a b h; exact Or.inl h
  | succ n ih =>
    intro a b h
    rcases h with h | h
    · exact Or.inl h
    · exact Or.inr (ih _ _ h)
theorem eu_st : ∀ n a b, fnN n a b → euN (n + 1) a b = euN n a b := by
  intro n
  induction n with
  | zero => intro a b h; show (if b = 0 then a else _) = a; rw [if_pos (show b = 0 from h)]
  | succ n ih =>
    intro a b h
    show (if b = 0 then a else euN (n + 1) b (a % b)) = (if b = 0 then a else euN n b (a % b))
    by_cases hb : b = 0
    · rw [if_pos hb, if_pos hb]
    · rw [if_neg hb, if_neg hb]
      rcases h with h | h
      · exact absurd h hb
      · exact ih _ _ h
theorem eu_pos : ∀ n a b, 0 < a → 0 < euN n a b := by
  intro n
  induction n with
  | zero => intro a b h; exact h
  | succ n ih =>
    intro a b h
    rw [euN]
    by_cases hb : b = 0
    · rw [if_pos hb]; exact h
    · rw [if_neg hb]; exact ih _ _ (by omega)
theorem eu_le : ∀ n a b z, a ≤ z → b ≤ z → euN n a b ≤ z := by
  intro n
  induction n with
  | zero => intro a b z h _; exact h
  | succ n ih =>
    intro a b z h1 h2
    rw [euN]
    by_cases hb : b = 0
    · rw [if_pos hb]; exact h1
    · rw [if_neg hb]
      have : a % b < b := Nat.mod_lt _ (by omega)
      exact ih _ _ z h2 (by omega)
theorem cmp0 {b : Nat} (hb : b < 9223372036854775808) : (lg_cmp (nL b) 0 = 0) = (b = 0) := by
  have h1 := cmp_lt (nL b) 0
  have h2 := cmp_gt (nL b) 0
  rw [Int64.lt_iff_toInt_lt, nL_int hb] at h1 h2
  change _ ↔ _ < (0 : Int) at h1
  change _ ↔ (0 : Int) < _ at h2
  apply propext
  constructor
  · intro h
    rw [h] at h2
    have : ¬ (0 : Int) < (b : Int) := fun z => absurd (h2.mpr z) (by decide)
    omega
  · rintro rfl
    decide
theorem com_m {T : St} : ∀ n a b, a ≤ 1000000000000 → b ≤ 1000000000000 → fnN n a b → F_X11_common (n + 1) (nL a) (nL b) T = some (nL (euN n a b), T) := by
  intro n
  induction n with
  | zero =>
    intro a b ha hb h
    show f_X11_common _ _ _ T = _
    unfold f_X11_common
    rw [if_pos (by rw [cmp0 (by omega)]; exact h)]; rfl
  | succ n ih =>
    intro a b ha hb h
    show f_X11_common (F_X11_common (n + 1)) _ _ T = _
    unfold f_X11_common
    rw [euN]
    by_cases hz : b = 0
    · rw [if_pos (by rw [cmp0 (by omega)]; exact hz), if_pos hz]
    · have hm : a % b < b := Nat.mod_lt _ (by omega)
      rw [if_neg (by rw [cmp0 (by omega)]; exact hz), if_neg hz, if_pos (show ¬ nL b = 0 by rw [show (0 : Int64) = nL 0 from rfl, nL_eq (by omega) (by omega)]; exact hz), nL_rem (by omega) (by omega)]
      rcases h with h | h
      · exact absurd h hz
      · rw [ih b (a % b) hb (by omega) h, bd_e]
theorem com_c {T : St} {a b : Nat} (ha : a ≤ 1000000000000) (hb : b ≤ 1000000000000) (h0 : 0 < a) (n : Nat) (hn : n ≤ 200) (h : fnN n a b) : f_X10_commonDivisor (nL a) (nL b) T = some (nL (euN n a b), T) := by
  unfold f_X10_commonDivisor
  have key : ∀ n a b i N, n + i ≤ 200 → a ≤ 1000000000000 → b ≤ 1000000000000 → 0 < a → fnN n a b → n < N → lp (f_X10_commonDivisor_9b (fun v3 S4 => (if (lg_cmp v3.1 (0 : Int64)) ≤ 0 then some ((1 : Int64), S4) else some (v3.1, S4)))) N (nL a, nL b, nI i) T = some (nL (euN n a b), T) := by
    intro n
    induction n with
    | zero =>
      intro a b i N hi ha hb h0 h hN
      obtain ⟨N', rfl⟩ : ∃ N', N = N' + 1 := ⟨N - 1, by omega⟩
      show f_X10_commonDivisor_9b _ _ _ T = _
      unfold f_X10_commonDivisor_9b
      simp only
      rw [if_neg (show ¬ (1000 : Int32) ≤ nI i by rw [lit, nLe (by omega) (by omega)]; omega), if_pos (by rw [cmp0 (by omega)]; exact h), if_neg (by
        have h2 := cmp_gt (nL a) 0
        rw [Int64.lt_iff_toInt_lt, nL_int (by omega)] at h2
        have := h2.mpr (show (0 : Int64).toInt < (a : Int) by change (0 : Int) < _; omega)
        rw [i_lt] at this
        rw [i_le]
        omega)]
      rfl
    | succ n ih =>
      intro a b i N hi ha hb h0 h hN
      by_cases hz : b = 0
      · obtain ⟨N', rfl⟩ : ∃ N', N = N' + 1 := ⟨N - 1, by omega⟩
        show f_X10_commonDivisor_9b _ _ _ T = _
        unfold f_X10_commonDivisor_9b
        simp only
        rw [euN, if_pos hz, if_neg (show ¬ (1000 : Int32) ≤ nI i by rw [lit, nLe (by omega) (by omega)]; omega), if_pos (by rw [cmp0 (by omega)]; exact hz), if_neg (by
          have h2 := cmp_gt (nL a) 0
          rw [Int64.lt_iff_toInt_lt, nL_int (by omega)] at h2
          have := h2.mpr (show (0 : Int64).toInt < (a : Int) by change (0 : Int) < _; omega)
          rw [i_lt] at this
          rw [i_le]
          omega)]
      · obtain ⟨N', rfl⟩ : ∃ N', N = N' + 1 := ⟨N - 1, by omega⟩
        have hm : a % b < b := Nat.mod_lt _ (by omega)
        have hh : fnN n b (a % b) := by
          rcases h with h | h
          · exact absurd h hz
          · exact h
        have := ih b (a % b) (i + 1) N' (by omega) hb (by omega) (by omega) hh (by omega)
        show f_X10_commonDivisor_9b _ (lp _ N') _ T = _
        unfold f_X10_commonDivisor_9b at this ⊢
        simp only
        rw [euN, if_neg hz, if_neg (show ¬ (1000 : Int32) ≤ nI i by rw [lit, nLe (by omega) (by omega)]; omega), if_neg (by rw [cmp0 (by omega)]; exact hz), if_pos (show ¬ nL b = 0 by rw [show (0 : Int64) = nL 0 from rfl, nL_eq (by omega) (by omega)]; exact hz), nL_rem (by omega) (by omega), lt_e, a1]
        exact this
  exact key n a b 0 FU (by omega) ha hb h0 h (by unfold FU; omega)
/-! chances -/
theorem sM_Q (S : St) (o1 o2 n : Nat) : sM S o1 0 o2 0 n = sQ S o2 (fun j => if j < n then gL S o1 j else gL S o2 j) := by
  apply St_ext
  · intro a b; rfl
  · intro a b
    show (if a = o2 then va_cpy (S.2 o1) (S.2 o2) 0 0 n b else S.2 a b) = _
    rw [gL_q]
    by_cases e : a = o2
    · rw [if_pos e, if_pos e]
      unfold va_cpy
      by_cases h : b < n
      · rw [if_pos (by omega), if_pos h]; simp [gL]
      · rw [if_neg (by omega), if_neg h]; rfl
    · rw [if_neg e, if_neg e]; rfl
def LA (T : St) (ob : Nat) (W : Nat → Nat) : Prop := ∀ u, u < 8 → gL T ob u = nL (W u)
def adW (W : Nat → Nat) (t : Nat) (im : Nat → Nat) : Nat → Nat → Nat
  | 0 => fun u => W u * t
  | v + 1 => fun u => if u = im v then adW W t im v (im v) + W v * (10 - t) else adW W t im v u
def sm8 (W : Nat → Nat) : Nat → Nat
  | 0 => 0
  | u + 1 => sm8 W u + W u
theorem sm_up {W : Nat → Nat} {k x : Nat} : ∀ n, k < n → sm8 (fun u => if u = k then W k + x else W u) n = sm8 W n + x := by
  have lo : ∀ n, n ≤ k → sm8 (fun u => if u = k then W k + x else W u) n = sm8 W n := by
    intro n
    induction n with
    | zero => intro _; rfl
    | succ n ih => intro h; rw [sm8, sm8, ih (by omega), if_neg (by omega)]
  intro n
  induction n with
  | zero => intro h; omega
  | succ n ih =>
    intro h
    rw [sm8, sm8]
    by_cases e : n = k
    · subst e; rw [lo n (by omega), if_pos rfl]; omega
    · rw [ih (by omega), if_neg e]; omega
theorem sm_mul (W : Nat → Nat) (t : Nat) : ∀ n, sm8 (fun u => W u * t) n = sm8 W n * t := by
  intro n
  induction n with
  | zero => rw [sm8, sm8, Nat.zero_mul]
  | succ n ih => rw [sm8, sm8, ih, Nat.add_mul]
theorem ad_sm {W : Nat → Nat} {t : Nat} {im : Nat → Nat} (him : ∀ v, v < 8 → im v < 8) : ∀ v, v ≤ 8 → sm8 (adW W t im v) 8 = sm8 W 8 * t + sm8 W v * (10 - t) := by
  intro v
  induction v with
  | zero => intro _; rw [show adW W t im 0 = fun u => W u * t from rfl, sm_mul, sm8, Nat.zero_mul]; omega
  | succ v ih =>
    intro hv
    rw [show adW W t im (v + 1) = fun u => if u = im v then adW W t im v (im v) + W v * (10 - t) else adW W t im v u from rfl, sm_up 8 (him v (by omega)), ih (by omega), show sm8 W (v + 1) = sm8 W v + W v from rfl, Nat.add_mul]
    omega
theorem sm_le {W : Nat → Nat} {u : Nat} : ∀ n, u < n → W u ≤ sm8 W n := by
  intro n
  induction n with
  | zero => intro h; omega
  | succ n ih =>
    intro h
    rw [sm8]
    by_cases e : u = n
    · rw [e]; omega
    · have := ih (by omega); omega
abbrev oH : St → St → Prop := Sm (fun a _ => decide (a ≠ 113) && decide (a ≠ 114) && decide (a ≠ 118) && decide (a ≠ 119)) (fun a => decide (a ≠ 96) && decide (a ≠ 97))
abbrev oI : St → St → Prop := Sm (fun a _ => decide (a ≠ 132) && decide (a ≠ 133)) (fun a => decide (a ≠ 151) && decide (a ≠ 152))
theorem oR.h {T T' : St} (h : oR T T') : oH T T' := ⟨h.1, fun a b _ => h.2 a b rfl⟩
theorem oK.i {T T' : St} (h : oK T T') : oI T T' := ⟨h.1, fun a b _ => h.2 a b rfl⟩
theorem oH.q {T T' : St} (h : oH T T') : QC T T' := by
  refine ⟨fun a b hab => h.1 a b ?_, fun a b hab => h.2 a b ?_⟩
  · have e1 : a ≠ 113 := by intro e; subst e; cases hab
    have e2 : a ≠ 114 := by intro e; subst e; cases hab
    have e3 : a ≠ 118 := by intro e; subst e; cases hab
    have e4 : a ≠ 119 := by intro e; subst e; cases hab
    simp [e1, e2, e3, e4]
  · have := of_decide_eq_true hab
    have e1 : a ≠ 96 := by omega
    have e2 : a ≠ 97 := by omega
    simp [e1, e2]
theorem oI.q {T T' : St} (h : oI T T') : QM T T' := by
  refine ⟨fun a b hab => h.1 a b ?_, fun a b hab => h.2 a b ?_⟩
  · have e1 : a ≠ 132 := by intro e; subst e; cases hab
    have e2 : a ≠ 133 := by intro e; subst e; cases hab
    simp [e1, e2]
  · have := of_decide_eq_true hab
    have e1 : a ≠ 151 := by omega
    have e2 : a ≠ 152 := by omega
    simp [e1, e2]
theorem ECs.h {T T' : St} {c : Cv} {l : Pth} {x : Nat} (h : ECs c T l x) (q : oH T T') : ECs c T' l x := by
  obtain ⟨h1, h2, h3, h4⟩ := h
  refine ⟨(q.1 _ _ rfl).trans h1, (q.1 _ _ rfl).trans h2, (q.1 _ _ rfl).trans h3, fun i hi => ?_⟩
  rw [q.1 93 i rfl, q.1 94 i rfl]
  exact h4 i hi
theorem EMs.i {T T' : St} {c : Cv} {l : Pth} {x : Nat} (h : EMs c T l x) (q : oI T T') : EMs c T' l x := by
  obtain ⟨h1, h2, h3, h4⟩ := h
  refine ⟨(q.1 _ _ rfl).trans h1, (q.1 _ _ rfl).trans h2, (q.1 _ _ rfl).trans h3, fun i hi => ?_⟩
  rw [q.1 134 i rfl, q.1 135 i rfl]
  exact h4 i hi
theorem LA.st {T : St} {ob : Nat} {W : Nat → Nat} (h : LA T ob W) (k v : Nat) : LA (sL T ob k (nL v)) ob (fun u => if u = k then v else W u) := by
  intro u hu
  rw [gL_l, if_pos rfl]
  by_cases e : u = k
  · rw [if_pos e]; dsimp only; rw [if_pos e]
  · rw [if_neg e]; dsimp only; rw [if_neg e]; exact h u hu
/-- by a passage -/
def ciN (c : Cv) (r : Rl) (p : Nat × Bool) (v : Nat) : Nat := (chv c r p.1 p.2 0 (nI v)).toNatClampNeg
theorem ci_e (c : Cv) (r : Rl) (p : Nat × Bool) (v : Nat) : chv c r p.1 p.2 0 (nI v) = nI (ciN c r p v) ∧ ciN c r p v < 8 := by
  obtain ⟨k, h1, h2⟩ := and7 (if r.1 = 0 then nI v + nI (cn c p.1) - nI (cw c p.1) / 3 else (stk (thg c p.1 p.2 0 (nI v)) r.2 (fun _ => 0) r.1).2 0)
  have h3 : chv c r p.1 p.2 0 (nI v) = nI k := h2
  unfold ciN
  rw [h3, nI_t (by omega)]
  exact ⟨rfl, by omega⟩
theorem m10 {t : Nat} (ht : t ≤ 10) : ((10 : Int32) - nI t).toInt64 = nL (10 - t) := by
  rw [show (10 : Int32) = nI 10 from rfl, nSub ht, nL_i (by omega)]
theorem spi_c {T : St} {c : Cv} {o : Nat} {r : Rl} {l : Pth} {x i t : Nat} {W : Nat → Nat} (ok : Cok c) (hC : CX T c o r) (hE : ECs c T l x) (hl : Pok c l) (hi : i < l.length) (ht : t ≤ 10) (hW : LA T 96 W) (x4 : Int64) (e k : Int64 × Int32 → St → Option (Int64 × St)) (w : Int64) : ∃ T', f_X2_spread_40b o (nI t) e k (w, nI i) T = k (w * 10, nI (i + 1)) T' ∧ oH T T' ∧ LA T' 96 (adW W t (ciN c r (l.getD i (0, false))) 8) := by
  have hl1 := hl.1
  -- times tenths
  have s1 : ∀ e1 : Int32 → St → Option (Int64 × St), ∃ T1, lp (f_X2_spread_52b o (nI t) w (nI i) e1) FU 0 T = e1 (nI 8) T1 ∧ oH T T1 ∧ LA T1 96 W ∧ LA T1 97 (adW W t (ciN c r (l.getD i (0, false))) 0) := by
    intro e1
    have h0 := lp_ex (body := f_X2_spread_52b o (nI t) w (nI i) e1) (Q := fun z => ∃ T1, z = e1 (nI 8) T1 ∧ oH T T1 ∧ LA T1 96 W ∧ LA T1 97 (adW W t (ciN c r (l.getD i (0, false))) 0)) 8 (fun v u S => u = nI v ∧ oH T S ∧ LA S 96 W ∧ ∀ j, j < v → gL S 97 j = nL (W j * t)) (fun v kk u S hv hI => ?_) (fun kk u S hI => ?_) FU 0 (0 : Int32) T (by omega) (by unfold FU; omega) ⟨rfl, Sm.rf T, hW, fun j hj => by omega⟩
    · exact h0
    · obtain ⟨rfl, q, w1, w2⟩ := hI
      refine ⟨nI (v + 1), sL S 97 v (nL (W v * t)), ?_, rfl, q.sL rfl, fun j hj => w1 j hj, fun j hj => ?_⟩
      · unfold f_X2_spread_52b
        have wv : inb (nI v) 8 := by rw [inb_nI (by omega)]; omega
        rw [if_neg (nLe8 hv)]
        simp only [if_pos wv, nI_t (show v < 2147483648 by omega), lt_e, w1 v hv]
        rw [nL_i (by omega), nL_mul, a1]
      · rw [gL_l, if_pos rfl]
        by_cases z : j = v
        · rw [if_pos z, z]
        · rw [if_neg z]; exact w2 j (by omega)
    · obtain ⟨rfl, q, w1, w2⟩ := hI
      refine ⟨S, ?_, q, w1, fun j hj => w2 j hj⟩
      unfold f_X2_spread_52b
      rw [if_pos (show (8 : Int32) ≤ nI 8 by decide)]
  obtain ⟨T1, a1', a2, a3, a4⟩ := s1 (fun v14 S15 => lp (f_X2_spread_85b o (nI t) w (nI i) (fun v16 S17 => lt (sM S17 97 0 96 0 8) (fun S18 => lt (w * (10 : Int64)) (fun y19 => k (y19, (nI i + (1 : Int32))) S18)))) FU (0 : Int32) S15)
  have h0 := lp_ex (body := f_X2_spread_85b o (nI t) w (nI i) (fun v16 S17 => lt (sM S17 97 0 96 0 8) (fun S18 => lt (w * (10 : Int64)) (fun y19 => k (y19, (nI i + (1 : Int32))) S18)))) (Q := fun z => ∃ T', z = k (w * 10, nI (i + 1)) T' ∧ oH T T' ∧ LA T' 96 (adW W t (ciN c r (l.getD i (0, false))) 8)) 8 (fun v u S => u = nI v ∧ oH T S ∧ LA S 96 W ∧ LA S 97 (adW W t (ciN c r (l.getD i (0, false))) v)) (fun v kk u S hv hI => ?_) (fun kk u S hI => ?_) FU 0 (0 : Int32) T1 (by omega) (by unfold FU; omega) ⟨rfl, a2, a3, a4⟩
  · obtain ⟨T', b1, b2⟩ := h0
    refine ⟨T', ?_, b2⟩
    unfold f_X2_spread_40b
    simp only
    rw [hE.1, if_neg (by rw [nLe (by omega) (by omega)]; omega)]
    exact a1'.trans b1
  · obtain ⟨rfl, q, w1, w2⟩ := hI
    have hE' := hE.h q
    have hCS := hC.q q.q
    obtain ⟨ce, c8⟩ := ci_e c r (l.getD i (0, false)) v
    obtain ⟨S1, g1, g2⟩ := chg_c ok hCS.1 hCS.2.1 (pok_g hl hi) (l.getD i (0, false)).2 0 (nI v)
    rw [ce] at g1
    have wi : inb (nI i) 12 := by rw [inb_nI (by omega)]; omega
    have wk : inb (nI (ciN c r (l.getD i (0, false)) v)) 8 := by rw [inb_nI (by omega)]; omega
    have wv : inb (nI v) 8 := by rw [inb_nI (by omega)]; omega
    have r7 : gL S1 97 (ciN c r (l.getD i (0, false)) v) = nL (adW W t (ciN c r (l.getD i (0, false))) v (ciN c r (l.getD i (0, false)) v)) := (g2.2 97 _ rfl).trans (w2 _ c8)
    have r6 : gL S1 96 v = nL (W v) := (g2.2 96 _ rfl).trans (w1 v hv)
    have w2' : LA S1 97 (adW W t (ciN c r (l.getD i (0, false))) v) := fun j hj => (g2.2 97 j rfl).trans (w2 j hj)
    refine ⟨nI (v + 1), sL S1 97 (ciN c r (l.getD i (0, false)) v) (nL (adW W t (ciN c r (l.getD i (0, false))) v (ciN c r (l.getD i (0, false)) v) + W v * (10 - t))), ?_, rfl, (q.tr g2.h).sL rfl, fun j hj => (g2.2 96 j rfl).trans (w1 j hj), w2'.st _ _⟩
    unfold f_X2_spread_85b
    rw [if_neg (nLe8 hv)]
    simp only [if_pos wi, nI_t (show i < 2147483648 by omega), (hE'.2.2.2 i hi).1, (hE'.2.2.2 i hi).2]
    rw [g1, bd_e]
    simp only [if_pos wk, if_pos wv, nI_t (show ciN c r (l.getD i (0, false)) v < 2147483648 by omega), nI_t (show v < 2147483648 by omega), lt_e, r7, r6]
    rw [m10 ht, nL_mul, nL_add, a1]
  · obtain ⟨rfl, q, w1, w2⟩ := hI
    refine ⟨sQ S 96 (fun j => if j < 8 then gL S 97 j else gL S 96 j), ?_, q.sQ rfl, fun j hj => ?_⟩
    · unfold f_X2_spread_85b
      rw [if_pos (show (8 : Int32) ≤ nI 8 by decide)]
      dsimp only
      rw [lt_e, lt_e, sM_Q, a1]
    · rw [gL_q, if_pos rfl, if_pos hj]; exact w2 j hj
