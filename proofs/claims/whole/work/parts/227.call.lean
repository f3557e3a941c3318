/-! calls read -/
theorem smcg {P : Nat → Nat → Bool} {L : Nat → Bool} {S T : St} (h : Sm P L S T) (o k : Nat) (v : Int32) : Sm P L (sI S o k v) (sI T o k v) := by
  refine ⟨fun a b hab => ?_, fun a b hab => h.2 a b hab⟩
  rw [gI_s, gI_s, h.1 a b hab]
theorem qrT {f g : St → Option (Int32 × St)} (h : ∀ S c o r n, RelP S → Cok c → CX S c o r → MX S c r → n ≤ 80 → gI S 1 1 = nI n → (∀ i, i < n → inR (gI S 2 i) 0 255) → ∃ (v : Int32) (vs : Option (List Int64)), (∀ l, vs = some l → l.length ≤ 16) ∧ AC (f S) (sI S 1 1 0) v vs ∧ ∀ S1, MX S1 c r → QC (sI S 1 1 0) S1 → gI S1 122 10 = nI n → (∀ i, i < n → gI S1 128 i = gI S 2 i) → AM (g S1) (sI S1 122 10 0) v vs) : EQ1 RelP f g := by
  apply EQ1.of
  intro S hS
  obtain ⟨c, o, r, ok, hC, hM⟩ := hS.x
  obtain ⟨n, n1, n2, n3, n4, n5⟩ := id hS.1
  obtain ⟨v, vs, h1, ⟨S1, a1, a2, a3, a4⟩, h3⟩ := h S c o r n hS ok hC hM n1 n2 (fun i hi => n5 i (by omega))
  refine ⟨v, S1, a1, ?_⟩
  have hM1 : MX S1 c r := by
    have : MX (sI S 1 1 0) c r := ⟨hM.1, hM.2⟩
    exact this.c a2
  obtain ⟨S2, b1, b2, b3, b4⟩ := h3 S1 hM1 a2 ((a2.1 122 10 rfl).trans n3) (fun i hi => (a2.1 128 i rfl).trans (n4 i hi).symm)
  refine ⟨v, S2, b1, rfl, ?_⟩
  have h0 : RelP (sI (sI S 1 1 0) 122 10 0) := by
    obtain ⟨hT, ⟨m, hCC, hO, hH, hK⟩, hN, hR, hF, hE, hU⟩ := id hS
    exact ⟨⟨0, by omega, rfl, rfl, fun i hi => absurd hi (by omega), n5⟩, ⟨m, hCC.fr, hO.f6, hH.fr, hK.fr⟩, hN.f6, hR.fr, hF.fr, hE.fr, hU.fr⟩
  refine h0.row (fun a b hab => ?_) ?_
  · rw [b2.1 a b (by unfold PM; rw [hab]; simp), gI_s, gI_s, a2.1 a b (by unfold PC; rw [hab]; simp)]
  · cases vs with
    | some l =>
      refine ⟨l.length, h1 l rfl, ?_, (b3 l rfl).1, fun i hi => ?_⟩
      · rw [b2.1 10 1 rfl]; exact (a3 l rfl).1
      · rw [b2.2 11 i rfl, (b3 l rfl).2 i hi]; exact (a3 l rfl).2 i hi
    | none =>
      obtain ⟨t, t1, t2, t3, t4⟩ := hS.2.2.2.1
      obtain ⟨c1, c2⟩ := a4 rfl
      obtain ⟨d1, d2⟩ := b4 rfl
      refine ⟨t, t1, ?_, ?_, fun i hi => ?_⟩
      · rw [b2.1 10 1 rfl]; exact c1.trans t2
      · rw [d1]; exact (a2.1 122 1 rfl).trans t3
      · rw [b2.2 11 i rfl, d2]; exact (c2 i).trans ((t4 i hi).trans (a2.2 123 i rfl).symm)
/-- is a letter -/
def ltB (x : Int32) : Bool := decide (¬ x < nI 97 ∧ ¬ nI 104 < x)
/-- how many of the first n are so -/
def ldN (p : Nat → Bool) (n : Nat) : Nat := (lstF (fun j => !p j) n).getD n
theorem ld_a (p : Nat → Bool) (n : Nat) : ldN p n ≤ n ∧ (∀ j, j < ldN p n → p j = true) ∧ (ldN p n < n → p (ldN p n) = false) := by
  unfold ldN
  cases e : lstF (fun j => !p j) n with
  | none =>
    refine ⟨Nat.le_refl _, fun j hj => ?_, fun h => absurd h (by show ¬ n < n; omega)⟩
    have := lst_none e j hj
    simpa using this
  | some i =>
    obtain ⟨h1, h2, h3⟩ := lst_some e
    refine ⟨by show i ≤ n; omega, fun j hj => ?_, fun _ => ?_⟩
    · have := h3 j hj
      simpa using this
    · show p i = false
      simpa using h2
theorem within_c {T : St} {i : Nat} (hi : i < 80) (a b : Int32) : f_X8_within (nI i) a b T = some (if ¬ gI T 2 i < a ∧ ¬ b < gI T 2 i then nI 1 else nI 0, T) := by
  unfold f_X8_within
  rw [if_neg (show ¬ nI i < 0 by rw [lit, nLt (by omega) (by omega)]; omega), if_neg (show ¬ (80 : Int32) ≤ nI i by rw [lit, nLe (by omega) (by omega)]; omega), if_pos (show inb (nI i) 80 by rw [inb_nI (by omega)]; omega)]
  simp only [if_pos (show inb (nI i) 80 by rw [inb_nI (by omega)]; omega), nI_t (show i < 2147483648 by omega)]
  by_cases g1 : gI T 2 i < a
  · rw [if_pos g1, if_neg (fun h => h.1 g1)]; rfl
  · rw [if_neg g1]
    by_cases g2 : b < gI T 2 i
    · rw [if_pos g2, if_neg (fun h => h.2 g2)]; rfl
    · rw [if_neg g2, if_pos ⟨g1, g2⟩]; rfl
theorem letters_c {T : St} {n p : Nat} (hn : n ≤ 80) (hT : gI T 1 1 = nI n) (hp : p ≤ n) : f_X8_lettersFrom (nI p) T = some (nI (ldN (fun i => ltB (gI T 2 (p + i))) (n - p)), T) := by
  obtain ⟨h1, h2, h3⟩ := ld_a (fun i => ltB (gI T 2 (p + i))) (n - p)
  refine lp_for (body := f_X8_lettersFrom_2b (nI p) (fun v4 S5 => some (v4, S5))) (ldN (fun i => ltB (gI T 2 (p + i))) (n - p)) (fun i => (nI i, T)) (out := some (nI (ldN (fun i => ltB (gI T 2 (p + i))) (n - p)), T)) (fun i k hi => ?_) (fun k => ?_) FU 0 (by omega) (by unfold FU; omega)
  · unfold f_X8_lettersFrom_2b
    have e : ¬ gI T 2 (p + i) < 97 ∧ ¬ 104 < gI T 2 (p + i) := of_decide_eq_true (h2 i hi)
    simp only
    rw [hT, nAdd, if_neg (by rw [nLe (by omega) (by omega)]; omega), within_c (by omega), bd_e]
    simp only [fl3z]
    rw [if_pos e, a1]
  · unfold f_X8_lettersFrom_2b
    simp only
    rw [hT, nAdd]
    by_cases g : n ≤ p + ldN (fun i => ltB (gI T 2 (p + i))) (n - p)
    · rw [if_pos (by rw [nLe (by omega) (by omega)]; omega)]
    · rw [if_neg (by rw [nLe (by omega) (by omega)]; omega), within_c (by omega), bd_e]
      simp only [fl3z]
      have e : ¬ (¬ gI T 2 (p + ldN (fun i => ltB (gI T 2 (p + i))) (n - p)) < 97 ∧ ¬ 104 < gI T 2 (p + ldN (fun i => ltB (gI T 2 (p + i))) (n - p))) := of_decide_eq_false (h3 (by omega))
      rw [if_neg e]
/-- the letters of a call -/
def clN (T : St) (R n : Nat) : Nat := ldN (fun i => ltB (gI T R i)) n
def clOk (L n : Nat) : Prop := L ≤ 6 ∧ L ≠ 0 ∧ n ≤ L
theorem fault_c {T : St} {n : Nat} (hn : n ≤ 80) (hT : gI T 1 1 = nI n) : (clOk (clN T 2 n) n → f_X8_faultOfCall T = some (-1, T)) ∧ (¬ clOk (clN T 2 n) n → f_X8_faultOfCall T = some (nI (min (clN T 2 n) 6), T)) := by
  obtain ⟨h1, h2, h3⟩ := ld_a (fun i => ltB (gI T 2 i)) n
  have e := letters_c hn hT (p := 0) (by omega)
  simp only [Nat.zero_add, Nat.sub_zero] at e
  have hL : ldN (fun i => ltB (gI T 2 i)) n = clN T 2 n := rfl
  rw [hL] at e h1
  unfold f_X8_faultOfCall f_X8_faultOfCall_27 clOk
  rw [show (0 : Int32) = nI 0 from rfl, e, bd_e]
  constructor
  · rintro ⟨g1, g2, g3⟩
    rw [if_pos (by rw [lit, nLe (by omega) (by omega)]; omega), if_neg (by rw [nEq (by omega) (by omega)]; omega), hT, if_pos (by rw [nLe (by omega) (by omega)]; omega)]
  · intro g
    by_cases g1 : clN T 2 n ≤ 6
    · rw [if_pos (by rw [lit, nLe (by omega) (by omega)]; omega), Nat.min_eq_left g1]
      by_cases g2 : clN T 2 n = 0
      · rw [if_pos (by rw [g2])]
      · rw [if_neg (by rw [nEq (by omega) (by omega)]; omega), hT, if_neg (by rw [nLe (by omega) (by omega)]; omega)]
    · rw [if_neg (by rw [lit, nLe (by omega) (by omega)]; omega), Nat.min_eq_right (by omega)]; rfl
/-- the class: refused, or gone -/
theorem refu_c {T : St} {c : Cv} {n : Nat} {x y : Int32} (ok : Cok c) (h : CC T c) (hn : n ≤ 80) (hT : gI T 1 1 = nI n) : (¬ echP c x y → f_X10_refusalOfCall x y T = some (-100, T)) ∧ (∀ st q, x = nI st → y = nI q → st ≤ 7 → q < cm c → (co c).testBit q = true → endN c st q → ∃ T', offE T T' ∧ ECs c T' (pth c st q) (pen c st q) ∧ (clOk (clN T 2 n) n → f_X10_refusalOfCall x y T = some (0, T')) ∧ (¬ clOk (clN T 2 n) n → f_X10_refusalOfCall x y T = some (-1 - nI (min (clN T 2 n) 6), T'))) := by
  constructor
  · intro he
    unfold f_X10_refusalOfCall
    rw [goes_n ok h he, bd_e, if_pos z00]
  · rintro st q rfl rfl hst hq ho hen
    obtain ⟨T', g1, g2, g3⟩ := goes_y ok h hst hq ho hen
    have hT' : gI T' 1 1 = nI n := (g2.1 1 1 (by omega) (by omega) (by omega)).trans hT
    have e2 : clN T' 2 n = clN T 2 n := by
      unfold clN
      congr 1
      funext i
      rw [g2.1 2 i (by omega) (by omega) (by omega)]
    obtain ⟨f1, f2⟩ := fault_c hn hT'
    rw [e2] at f1 f2
    refine ⟨T', g2, g3, fun hc => ?_, fun hc => ?_⟩
    · unfold f_X10_refusalOfCall
      rw [g1, bd_e, if_neg (by decide), f1 hc, bd_e, if_pos rfl]
    · unfold f_X10_refusalOfCall
      rw [g1, bd_e, if_neg (by decide), f2 hc, bd_e, if_neg (nne (by omega))]
theorem oj80 {n : Nat} (h : n ≤ 80) : mnI (nI n) 80 = nI n := by
  unfold mnI
  exact if_neg (show ¬ nI 80 < nI n by rw [nLt (by omega) (by omega)]; omega)
/-- the reference's text, begun -/
def bgS (T : St) (to : Int32) : St := sI (sI (sI (sI T 122 10 0) 122 11 0) 122 13 0) 122 12 to
theorem begins_m (T : St) (x : Int32) : f_X11_begins x T = some (gI T 122 10, bgS T (mnI (gI T 122 10) x)) := rfl
theorem isLet_m {T : St} {a t : Nat} (ha : gI T 122 11 = nI a) (ht : gI T 122 12 = nI t) (h80 : t ≤ 80) (h : a ≤ t) : f_X11_isLetter T = some (if a < t ∧ ltB (gI T 128 a) = true then nI 1 else nI 0, T) := by
  unfold f_X11_isLetter
  rw [ha, ht]
  by_cases g : a < t
  · rw [if_neg (by rw [nLe (by omega) (by omega)]; omega), if_pos (by rw [inb_nI (by omega)]; omega), nI_t (by omega), in_97_104, bd_e]
    simp only [fl3z]
    by_cases g2 : ¬ gI T 128 a < nI 97 ∧ ¬ nI 104 < gI T 128 a
    · rw [if_pos g2, if_pos ⟨g, decide_eq_true g2⟩]; rfl
    · rw [if_neg g2, if_neg (fun h => g2 (of_decide_eq_true h.2))]; rfl
  · rw [if_pos (by rw [nLe (by omega) (by omega)]; omega), if_neg (fun h => g h.1)]; rfl
/-- the reference reads letters from a on -/
theorem letters_m {T : St} {a t : Nat} (ha : gI T 122 11 = nI a) (ht : gI T 122 12 = nI t) (h80 : t ≤ 80) (h : a ≤ t) : ∃ T', f_X11_readsLetters T = some (nI (min (ldN (fun i => ltB (gI T 128 (a + i))) (t - a)) 6), T') ∧ gI T' 122 11 = nI (a + min (ldN (fun i => ltB (gI T 128 (a + i))) (t - a)) 6) ∧ (∀ j, j < min (ldN (fun i => ltB (gI T 128 (a + i))) (t - a)) 6 → gI T' 138 j = gI T 128 (a + j) - 97) ∧ Sm (fun o k => decide (o ≠ 138) && (decide (o ≠ 122) || decide (k ≠ 11))) (fun _ => true) T T' := by
  obtain ⟨h1, h2, h3⟩ := ld_a (fun i => ltB (gI T 128 (a + i))) (t - a)
  generalize hL : ldN (fun i => ltB (gI T 128 (a + i))) (t - a) = L at h1 h2 h3
  refine lp_ex (body := f_X11_readsLetters_2b (fun v8 S9 => some (v8, S9))) (Q := fun w => ∃ T', w = some (nI (min L 6), T') ∧ gI T' 122 11 = nI (a + min L 6) ∧ (∀ j, j < min L 6 → gI T' 138 j = gI T 128 (a + j) - 97) ∧ Sm (fun o k => decide (o ≠ 138) && (decide (o ≠ 122) || decide (k ≠ 11))) (fun _ => true) T T') (min L 6) (fun i v S => v = nI i ∧ gI S 122 11 = nI (a + i) ∧ (∀ j, j < i → gI S 138 j = gI T 128 (a + j) - 97) ∧ Sm (fun o k => decide (o ≠ 138) && (decide (o ≠ 122) || decide (k ≠ 11))) (fun _ => true) T S) (fun i k v S hi hI => ?_) (fun k v S hI => ?_) FU 0 _ T (by omega) (by unfold FU; omega) ⟨rfl, ha, fun j hj => by omega, Sm.rf T⟩
  · obtain ⟨rfl, e1, e2, q⟩ := hI
    have et : gI S 122 12 = nI t := (q.1 122 12 rfl).trans ht
    refine ⟨nI (i + 1), sI (sI S 138 i (gI T 128 (a + i) - 97)) 122 11 (nI (a + (i + 1))), ?_, rfl, rfl, fun j hj => ?_, (q.sI rfl).sI rfl⟩
    · unfold f_X11_readsLetters_2b
      have e3 : gI (sI S 138 i (gI T 128 (a + i) - 97)) 122 11 = nI (a + i) := e1
      rw [if_neg (show ¬ (6 : Int32) ≤ nI i by rw [lit, nLe (by omega) (by omega)]; omega), isLet_m e1 et h80 (by omega), bd_e]
      simp only [fl3z]
      rw [if_pos ⟨by omega, by rw [q.1 128 _ rfl]; exact h2 i (by omega)⟩, e1, if_pos (by rw [inb_nI (by omega)]; omega), if_pos (by rw [inb_nI (by omega)]; omega), lt_e, lt_e, nI_t (by omega), nI_t (by omega), q.1 128 _ rfl, e3, a1, a1]
      rfl
    · show (if j = i then gI T 128 (a + i) - 97 else gI S 138 j) = _
      by_cases e : j = i
      · rw [if_pos e, e]
      · rw [if_neg e]; exact e2 j (by omega)
  · obtain ⟨rfl, e1, e2, q⟩ := hI
    have et : gI S 122 12 = nI t := (q.1 122 12 rfl).trans ht
    refine ⟨S, ?_, e1, e2, q⟩
    unfold f_X11_readsLetters_2b
    by_cases g : 6 ≤ L
    · rw [Nat.min_eq_right g, if_pos (show (6 : Int32) ≤ nI 6 by decide)]
    · rw [Nat.min_eq_left (by omega), if_neg (show ¬ (6 : Int32) ≤ nI L by rw [lit, nLe (by omega) (by omega)]; omega)]
      rw [Nat.min_eq_left (by omega)] at e1
      rw [isLet_m e1 et h80 (by omega), bd_e]
      simp only [fl3z]
      rw [if_neg]
      rintro ⟨g1, g2⟩
      rw [q.1 128 _ rfl] at g2
      rw [h3 (by omega)] at g2
      cases g2
/-- the reference reads a call -/
theorem readsCall_m {T : St} {c : Cv} {n : Nat} {x y : Int32} (ok : Cok c) (h : CM T 126 c) (hn : n ≤ 80) (hT : gI T 122 10 = nI n) : (¬ echP c x y → ∃ T', f_X11_readsCall x y T = some (-100, T') ∧ QM (sI T 122 10 0) T' ∧ gI T' 122 1 = gI T 122 1 ∧ ∀ k, gL T' 123 k = gL T 123 k) ∧ (∀ st q, x = nI st → y = nI q → st ≤ 7 → q < cm c → (co c).testBit q = true → endN c st q → ∃ T', QM (sI T 122 10 0) T' ∧ gI T' 122 1 = gI T 122 1 ∧ (∀ k, gL T' 123 k = gL T 123 k) ∧ (clOk (clN T 128 n) n → f_X11_readsCall x y T = some (nI n, T') ∧ ∀ j, j < n → gI T' 138 j = gI T 128 j - 97) ∧ (¬ clOk (clN T 128 n) n → f_X11_readsCall x y T = some (-1 - nI (min (clN T 128 n) 6), T'))) := by
  have q0 : QM (sI T 122 10 0) (bgS T (mnI (gI T 122 10) 80)) := (((Sm.rf _).sI rfl).sI rfl).sI rfl
  have hC : CM (bgS T (mnI (gI T 122 10) 80)) 126 c := by
    have : CM (sI T 122 10 0) 126 c := h
    exact this.q q0
  constructor
  · intro he
    refine ⟨bgS T (mnI (gI T 122 10) 80), ?_, q0, rfl, fun _ => rfl⟩
    unfold f_X11_readsCall
    rw [begins_m, bd_e, isE_n ok hC he, bd_e, if_pos z00]
  · rintro st q rfl rfl hst hq ho hen
    obtain ⟨T', t1, t2, t3, t4⟩ := letters_m (T := bgS T (mnI (gI T 122 10) 80)) (a := 0) (t := n) rfl (by show mnI (gI T 122 10) 80 = nI n; rw [hT, oj80 hn]) hn (by omega)
    have eL : ldN (fun i => ltB (gI (bgS T (mnI (gI T 122 10) 80)) 128 (0 + i))) (n - 0) = clN T 128 n := by
      unfold clN
      rw [Nat.sub_zero]
      congr 1
      funext i
      rw [Nat.zero_add]; rfl
    rw [eL] at t1 t2 t3
    obtain ⟨h1, h2, h3⟩ := ld_a (fun i => ltB (gI T 128 i)) n
    have hL : ldN (fun i => ltB (gI T 128 i)) n = clN T 128 n := rfl
    rw [hL] at h1
    have e12 : gI T' 122 12 = nI n := (t4.1 122 12 rfl).trans (by show mnI (gI T 122 10) 80 = nI n; rw [hT, oj80 hn])
    have q4 : QM (bgS T (mnI (gI T 122 10) 80)) T' := by
      refine ⟨fun a b hab => t4.1 a b ?_, fun a b _ => t4.2 a b rfl⟩
      have e1 : a ≠ 138 := by intro e; subst e; cases hab
      by_cases e2 : a = 122
      · have e3 : b ≠ 11 := by intro e; subst e; subst e2; cases hab
        simp [e1, e3]
      · simp [e1, e2]
    have ee : f_X11_readsCall (nI st) (nI q) T = (if nI (min (clN T 128 n) 6) = 0 then f_X11_readsCall_43 T' else (if (gI T' 122 12) ≤ (gI T' 122 11) then some (nI (min (clN T 128 n) 6), T') else f_X11_readsCall_43 T')) := by
      unfold f_X11_readsCall
      rw [begins_m, bd_e, isE_y ok hC hst hq ho hen, bd_e, if_neg (by decide), t1, bd_e]
    refine ⟨T', q0.tr q4, t4.1 122 1 rfl, fun k => t4.2 123 k rfl, fun hc => ?_, fun hc => ?_⟩
    · obtain ⟨c1, c2, c3⟩ := hc
      have em : min (clN T 128 n) 6 = n := by omega
      rw [em] at ee t2 t3
      refine ⟨?_, fun j hj => ?_⟩
      · rw [ee, if_neg (by rw [lit, nEq (by omega) (by omega)]; omega), e12, t2, if_pos (by rw [nLe (by omega) (by omega)]; omega)]
      · rw [t3 j hj, Nat.zero_add]; rfl
    · rw [ee]
      unfold f_X11_readsCall_43
      rw [t2, e12, Nat.zero_add]
      by_cases g2 : clN T 128 n = 0
      · rw [if_pos (by rw [g2]; rfl)]
      · rw [if_neg (by rw [lit, nEq (by omega) (by omega)]; omega), if_neg (by
          rw [nLe (by omega) (by omega)]
          intro g
          exact hc ⟨by omega, g2, by omega⟩)]
