/-! what most acts leave as it was -/
def domO : List Nat := [1, 2, 3, 4, 5, 10, 91, 101, 102, 103, 105, 106, 107, 111, 116, 124, 125, 128, 130, 146, 147, 148, 149, 150, 155, 156, 157]
def domM : List Nat := [1, 3, 4, 10, 18, 39, 42]
def domR (a b : Nat) : Bool := domO.contains a || (decide (79 ≤ a) && decide (a ≤ 90)) || (decide (a = 0) && (decide (b = 8) || decide (b = 9))) || ((decide (a = 110) || decide (a = 115)) && decide (b = 1)) || (decide (a = 104) && decide (b = 3)) || (decide (a = 122) && domM.contains b)
def Same (P : Nat → Nat → Bool) (S S' : St) : Prop := (∀ a b, P a b = true → gI S' a b = gI S a b) ∧ ∀ k, gL S' 11 k = gL S 11 k ∧ gL S' 123 k = gL S 123 k
theorem Same.rf {P : Nat → Nat → Bool} (S : St) : Same P S S := ⟨fun _ _ _ => rfl, fun _ => ⟨rfl, rfl⟩⟩
theorem Same.tr {P : Nat → Nat → Bool} {S S1 S2 : St} (h1 : Same P S S1) (h2 : Same P S1 S2) : Same P S S2 := ⟨fun o k h => (h2.1 o k h).trans (h1.1 o k h), fun k => ⟨(h2.2 k).1.trans (h1.2 k).1, (h2.2 k).2.trans (h1.2 k).2⟩⟩
theorem Same.sI {P : Nat → Nat → Bool} {S S1 : St} {o k : Nat} {v : Int32} (h : Same P S S1) (hs : P o k = false) : Same P S (sI S1 o k v) := by
  refine ⟨fun a b hab => ?_, h.2⟩
  rw [gI_s]
  by_cases e1 : a = o
  · by_cases e2 : b = k
    · subst e1; subst e2; rw [hs] at hab; cases hab
    · rw [if_pos e1, if_neg e2]; exact h.1 a b hab
  · rw [if_neg e1]; exact h.1 a b hab
theorem Same.sR {P : Nat → Nat → Bool} {S S1 : St} {o : Nat} {f : Nat → Int32} (h : Same P S S1) (hs : ∀ k, P o k = false) : Same P S (sR S1 o f) := by
  refine ⟨fun a b hab => ?_, h.2⟩
  rw [gI_r]
  by_cases e : a = o
  · subst e; rw [hs b] at hab; cases hab
  · rw [if_neg e]; exact h.1 a b hab
def RelR (S : St) (m : Nat) : Prop := RT S ∧ RC S m ∧ RK S m ∧ RR S ∧ RF S ∧ RE S ∧ RU S
theorem dO {a b : Nat} (h : domO.contains a = true) : domR a b = true := by unfold domR; rw [h]; rfl
theorem RelR.sm {S S' : St} {m : Nat} (h : RelR S m) (s : Same domR S S') : RelR S' m := by
  obtain ⟨hT, hC, hK, hR, hF, hE, hU⟩ := h
  refine ⟨hT.fr (s.1 _ _ rfl) (s.1 _ _ rfl) (fun k => s.1 _ _ (dO rfl)) (fun k => s.1 _ _ (dO rfl)), hC.fr (s.1 _ _ rfl) (s.1 _ _ rfl) (fun k => s.1 _ _ (dO rfl)) (fun k => s.1 _ _ (dO rfl)) (fun k => s.1 _ _ (dO rfl)) (fun k => s.1 _ _ (dO rfl)), ?_, hR.fr (s.1 _ _ rfl) (s.1 _ _ rfl) (fun k => (s.2 k).1) (fun k => (s.2 k).2), hF.fr (s.1 _ _ rfl) (s.1 _ _ rfl) (fun k => s.1 _ _ (dO rfl)) (fun k => s.1 _ _ (dO rfl)) (fun k => s.1 _ _ (dO rfl)) (fun k => s.1 _ _ (dO rfl)), hE.fr (s.1 _ _ rfl) (s.1 _ _ rfl) (fun k => s.1 _ _ (dO rfl)) (fun k => s.1 _ _ (dO rfl)) (fun k => s.1 _ _ (dO rfl)) (fun k => s.1 _ _ (dO rfl)) (fun k => s.1 _ _ (dO rfl)) (fun k => s.1 _ _ (dO rfl)), hU.fr (s.1 _ _ rfl) (s.1 _ _ rfl) (s.1 _ _ rfl) (s.1 _ _ rfl) (s.1 _ _ rfl) (fun k => s.1 _ _ (dO rfl)) (fun k => s.1 _ _ (dO rfl)) (fun k => s.1 _ _ (dO rfl))⟩
  obtain ⟨c, h1, h2, h3⟩ := hK
  have d : ∀ o k, 79 ≤ o → o ≤ 90 → gI S' o k = gI S o k := fun o k x1 x2 => s.1 _ _ (by unfold domR; rw [decide_eq_true x1, decide_eq_true x2]; simp)
  have e91 : ∀ i, gI S' 91 i = gI S 91 i := fun i => s.1 _ _ (dO rfl)
  have e155 : ∀ i, gI S' 155 i = gI S 155 i := fun i => s.1 _ _ (dO rfl)
  have e156 : ∀ i, gI S' 156 i = gI S 156 i := fun i => s.1 _ _ (dO rfl)
  refine ⟨c, h1, (s.1 _ _ rfl).trans h2, fun i hi => ?_⟩
  obtain ⟨a1, a2, a3, a4, a5⟩ := h3 i hi
  rw [e91, e155, e156]
  exact ⟨a1, a2, a3, a4, fun x => ⟨(a5 x).1.fr (fun q k hq => d _ _ (by omega) (by omega)) (fun k _ _ => s.1 _ _ (dO rfl)), (a5 x).2.fr (fun q k hq => d _ _ (by omega) (by omega))⟩⟩
theorem RelP.r {S : St} (h : RelP S) : ∃ m u f, RelR S m ∧ SOk S m 6 ∧ SEq S 6 126 0 ∧ RHw S m u f := by
  obtain ⟨hT, ⟨m, hC, hO, ⟨u, f, hH⟩, hK⟩, hN, hR, hF, hE, hU⟩ := h
  exact ⟨m, u, f, ⟨hT, hC, hK, hR, hF, hE, hU⟩, hO, hN, hH⟩
theorem RelR.p {S : St} {m : Nat} (h : RelR S m) (hO : SOk S m 6) (hN : SEq S 6 126 0) (hH : RH S m) : RelP S := ⟨h.1, ⟨m, h.2.1, hO, hH, h.2.2.1⟩, hN, h.2.2.2.1, h.2.2.2.2.1, h.2.2.2.2.2.1, h.2.2.2.2.2.2⟩
theorem dom_z {a b : Nat} (h1 : 14 ≤ a) (h2 : a ≤ 77) : domR a b = false := by
  have e1 : domO.contains a = false := by
    have q : ∀ a, a ≤ 77 → 14 ≤ a → domO.contains a = false := by decide +kernel
    exact q a h2 h1
  unfold domR
  rw [e1, decide_eq_false (show ¬ 79 ≤ a by omega), decide_eq_false (show ¬ a = 122 by omega), decide_eq_false (show ¬ a = 0 by omega), decide_eq_false (show ¬ a = 104 by omega), decide_eq_false (show ¬ a = 110 by omega), decide_eq_false (show ¬ a = 115 by omega)]
  rfl
theorem Same.tk {S S1 : St} {o : Nat} (h : Same domR S S1) (h1 : 14 ≤ o) (h2 : o ≤ 74) : Same domR S (tk S1 o 6) := by
  unfold _root_.Jvm.Pilot.CCaveAdviceLaw_law_r4081_87989a.tk
  exact (((((h.sR (fun _ => dom_z (by omega) (by omega))).sR (fun _ => dom_z (by omega) (by omega))).sR (fun _ => dom_z (by omega) (by omega))).sI (dom_z (by omega) (by omega))).sI (dom_z (by omega) (by omega))).sI (dom_z (by omega) (by omega))
def stS (u f : Nat) (S : St) : St := if u < 15 then sI S 12 2 (nI (u + 1)) else sI S 12 1 (nI ((f + 1) % 16))
def adS (u : Nat) (S : St) : St := if u < 15 then sI S 122 28 (nI (u + 1)) else sI (sR (sI S 122 28 (nI 16)) 137 (fun k => if k < 585 then gI S 137 (k + 39) else gI S 137 k)) 122 28 (nI 15)
theorem settle_e {S : St} {u f : Nat} (h : gI S 12 2 = nI u) (h1 : gI S 12 1 = nI f) (hu : u ≤ 15) (hf : f < 16) : f_X4_settle (nI 1) S = some ((), stS u f S) := by
  unfold stS
  by_cases q : u < 15
  · rw [if_pos q]; exact settle_d h q
  · have : u = 15 := by omega
    subst this
    rw [if_neg q]; exact settle_f h h1 hf
theorem addsN {S : St} {u : Nat} (x : Int32) (h : gI S 122 28 = nI u) (hu : u ≤ 15) : f_X11_adds x S = some (x, adS u S) := by
  unfold adS
  by_cases q : u < 15
  · rw [if_pos q]; exact adds_e x h q
  · have : u = 15 := by omega
    subst this
    rw [if_neg q]; exact adds_f x h
theorem stS_off {u f : Nat} {S : St} {a b : Nat} (h : a ≠ 12) : gI (stS u f S) a b = gI S a b := by
  unfold stS; split <;> rw [gI_s, if_neg h]
theorem stS_L {u f : Nat} {S : St} {a b : Nat} : gL (stS u f S) a b = gL S a b := by
  unfold stS; split <;> rfl
theorem adS_off {u : Nat} {S : St} {a b : Nat} (h : a ≠ 122) (h2 : a ≠ 137) : gI (adS u S) a b = gI S a b := by
  unfold adS; split
  · rw [gI_s, if_neg h]
  · rw [gI_s, if_neg h, gI_r, if_neg h2, gI_s, if_neg h]
theorem Same.st {S S1 : St} {u f : Nat} (h : Same domR S S1) : Same domR S (stS u f S1) := by
  unfold stS; split
  · exact h.sI rfl
  · exact h.sI rfl
theorem Same.ad {S S1 : St} {u : Nat} (h : Same domR S S1) : Same domR S (adS u S1) := by
  unfold adS; split
  · exact h.sI rfl
  · exact ((h.sI rfl).sR (fun _ => rfl)).sI rfl
set_option maxRecDepth 16384 in
/-- an act that was done: B is the state before the reference counts it -/
theorem act_done {S B : St} {m u f : Nat} (hw : RHw S m u f) (hm : m ≤ 12) (hN : SEq S 6 126 0) (hO : SOk S m 6) (A : St) (hA2 : gI A 12 2 = nI u) (hA1 : gI A 12 1 = nI f) (hB12 : ∀ k, gI B 12 k = gI (stS u f A) 12 k) (hB28 : gI B 122 28 = nI u) (hz : ∀ o k, 14 ≤ o → o ≤ 77 → gI B o k = gI (tk S (14 + 4 * ((f + u) % 16)) 6) o k) (h137 : ∀ k, gI B 137 k = if 39 * u ≤ k ∧ k < 39 * u + 39 then gI S 126 (k - 39 * u) else gI S 137 k) : RH (adS u B) m := by
  have hw' := id hw
  obtain ⟨h1, h2, h3, h4, h5, h6⟩ := hw'
  have hz' : ∀ o k, 14 ≤ o → o ≤ 77 → gI (adS u B) o k = gI (tk S (14 + 4 * ((f + u) % 16)) 6) o k := fun o k x1 x2 => (adS_off (by omega) (by omega)).trans (hz o k x1 x2)
  have y : ∀ k, gI (adS u B) 12 k = gI (stS u f A) 12 k := fun k => (adS_off (by omega) (by omega)).trans (hB12 k)
  by_cases q : u < 15
  · refine hw.d hm hN hO hz' q ?_ ?_ ?_ ?_ ?_
    · rw [y]; unfold stS; rw [if_pos q]; rfl
    · unfold adS; rw [if_pos q]; rfl
    · rw [y]; unfold stS; rw [if_pos q]; exact hA1
    · intro k hk
      unfold adS; rw [if_pos q]
      show gI B 137 k = _
      rw [h137, if_neg (by omega)]
    · intro k hk
      unfold adS; rw [if_pos q]
      show gI B 137 (39 * u + k) = _
      rw [h137, if_pos (by omega)]
      congr 1; omega
  · have : u = 15 := by omega
    subst this
    refine hw.f hm hN hO hz' ?_ ?_ ?_ ?_ ?_
    · rw [y]; unfold stS; rw [if_neg q]; exact hA2
    · unfold adS; rw [if_neg q]; rfl
    · rw [y]; unfold stS; rw [if_neg q]; rfl
    · intro k hk
      unfold adS; rw [if_neg q]
      rw [gI_s, if_neg (by omega), gI_r, if_pos rfl, if_pos (by omega), h137, if_neg (by omega)]
    · intro k hk
      unfold adS; rw [if_neg q]
      rw [gI_s, if_neg (by omega), gI_r, if_pos rfl, if_pos (by omega), h137, if_pos (by omega)]
      congr 1; omega
theorem has_e {S : St} {m : Nat} (hm : gI S 3 2 = nI m) (h12 : m ≤ 12) (x : Int32) : f_X0_has x S = some (if ¬ x < nI 0 ∧ x < nI m then nI 1 else nI 0, S) := by
  unfold f_X0_has
  simp only [lit, hm]
  by_cases g1 : x < nI 0
  · simp only [g1, if_true, not_true, false_and, if_false]
  · by_cases g2 : x < nI m
    · have g3 : ¬ nI m ≤ x := by rw [i_le]; rw [i_lt] at g2; omega
      simp only [g1, g2, g3, if_true, if_false, not_false_iff, and_self]
    · have g3 : nI m ≤ x := by rw [i_le]; rw [i_lt] at g2; omega
      simp only [g1, g2, g3, if_true, if_false, and_false]
theorem isP_e {S : St} {m : Nat} (hm : gI S 122 3 = nI m) (h12 : m ≤ 12) (x : Int32) : f_X11_isPassage x S = some (if ¬ x < nI 0 ∧ x < nI m then nI 1 else nI 0, S) := by
  have k1 : (nI m - nI 1 < x) = ¬ (x < nI m) := by
    rw [i_lt, i_lt, nI_int (by omega)]
    by_cases h0 : m = 0
    · subst h0
      rw [show (nI 0 - nI 1).toInt = -1 from by decide]; apply propext; omega
    · rw [nSub (by omega), nI_int (by omega)]; apply propext; omega
  unfold f_X11_isPassage
  simp only [in0, hm, lit, bd_e, k1, Classical.not_not]
  exact fl2
theorem Same.of {S S1 S2 : St} (h : Same domR S S1) (hx : ∀ o k, o ≠ 126 → gI S2 o k = gI S1 o k) (hl : ∀ o k, gL S2 o k = gL S1 o k) : Same domR S S2 := by
  refine ⟨fun a b hab => ?_, fun k => ⟨(hl _ _).trans (h.2 k).1, (hl _ _).trans (h.2 k).2⟩⟩
  by_cases e : a = 126
  · subst e; cases hab
  · exact (hx a b e).trans (h.1 a b hab)
theorem Same.cl {S S1 S2 : St} (h : Same domR S S1) (hx : ∀ o k, (o < 6 ∨ 9 < o) → gI S2 o k = gI S1 o k) (hl : ∀ o k, gL S2 o k = gL S1 o k) : Same domR S S2 := by
  refine ⟨fun a b hab => ?_, fun k => ⟨(hl _ _).trans (h.2 k).1, (hl _ _).trans (h.2 k).2⟩⟩
  by_cases e : a < 6 ∨ 9 < a
  · exact (hx a b e).trans (h.1 a b hab)
  · have : a = 6 ∨ a = 7 ∨ a = 8 ∨ a = 9 := by omega
    rcases this with rfl | rfl | rfl | rfl <;> cases hab
/-- the relation but for what can be undone -/
def RelQ (S : St) (m : Nat) : Prop := RelR S m ∧ SOk S m 6 ∧ SEq S 6 126 0
/-- acts of class and reference, A and B, between what marks and what counts -/
theorem act_eq {A B : St → Option (Int32 × St)} {F G : St → Option (Int32 × St)} (hF : F = fun S => bd (f_X4_mark S) (fun r4 S5 => bd (A S5) (fun r7 S8 => (if r7 < 0 then bd (f_X4_settle 0 S8) (fun r1 S2 => some (r7, S2)) else bd (f_X4_settle 1 S8) (fun r1 S2 => some (r7, S2)))))) (hG : G = fun S => lt (sI S 122 0 (0 : Int32)) (fun S1 => bd (f_X11_putsBy S1) (fun r2 S3 => bd (B S3) (fun r5 S6 => bd (f_X11_counted r5 S6) (fun r8 S9 => some (r8, S9))))))
  (hAB : ∀ S m, m ≤ 12 → gI S 3 2 = nI m → SOk S m 6 → Wp (A S) (fun r S1 => (∀ o k, (o < 6 ∨ 9 < o) → gI S1 o k = gI S o k) ∧ (∀ o k, gL S1 o k = gL S o k) ∧ (r < 0 → ∀ o k, gI S1 o k = gI S o k) ∧ ∀ S2, gI S2 122 3 = nI m → SEq S 6 126 0 → (∀ k, gI S2 126 k = gI S 126 k) → Wp (B S2) (fun r' S3 => r' = r ∧ (∀ o k, o ≠ 126 → gI S3 o k = gI S2 o k) ∧ (∀ o k, gL S3 o k = gL S2 o k) ∧ (r < 0 → ∀ k, gI S3 126 k = gI S2 126 k) ∧ (0 ≤ r → ∀ E, (∀ o k, 6 ≤ o → o ≤ 9 → gI E o k = gI S1 o k) → (∀ k, gI E 126 k = gI S3 126 k) → SEq E 6 126 0 ∧ SOk E m 6)))) : EQ1 RelP F G := by
  subst hF; subst hG
  apply EQ1.of
  intro S hS
  obtain ⟨m, u, f, hR, hO, hN, hw⟩ := hS.r
  have hw' := id hw
  obtain ⟨h1, h2, h3, h4, h5, h6⟩ := hw'
  have hm : m ≤ 12 := hR.2.1.1
  have sl : 14 ≤ 14 + 4 * ((f + u) % 16) ∧ 14 + 4 * ((f + u) % 16) ≤ 74 := by omega
  have st0 := (Same.rf (P := domR) S).tk sl.1 sl.2
  have off : ∀ o k, (o < 14 ∨ 77 < o) → gI (tk S (14 + 4 * ((f + u) % 16)) 6) o k = gI S o k := fun o k h => tk_off (by omega)
  rw [mark_e hw, bd_e]
  generalize hT : tk S (14 + 4 * ((f + u) % 16)) 6 = T at *
  have o6 : SOk T m 6 := hO.fr (fun q k hq => off _ _ (by omega))
  have n6 : SEq T 6 126 0 := hN.fr (fun q k hq => off _ _ (by omega)) (fun k _ _ => off _ _ (by omega))
  have tL : ∀ o k, gL T o k = gL S o k := fun o k => by rw [← hT]; rfl
  apply Wp.bd
  refine (hAB T m hm ((off _ _ (by omega)).trans hR.2.1.2.1) o6).mo ?_
  intro r S1 ⟨c1, c2, c3, c4⟩
  have i12 : ∀ k, gI S1 12 k = gI S 12 k := fun k => (c1 _ _ (by omega)).trans (off _ _ (by omega))
  refine Wp.it (fun g => ?_) (fun g => ?_)
  · rw [show f_X4_settle 0 S1 = some ((), S1) from rfl, bd_e]
    refine Wp.rt ?_
    have k28 : gI (sI S1 122 0 0) 122 28 = nI u := (c1 122 28 (by omega)).trans ((off _ _ (by omega)).trans h4)
    rw [lt_e, putsBy_e (u := u) k28 h1, bd_e]
    apply Wp.bd
    generalize hP : sR (sI S1 122 0 0) 137 _ = P
    have p1 : ∀ o k, o ≠ 137 → (o ≠ 122 ∨ k ≠ 0) → gI P o k = gI S1 o k := by
      intro o k q1 q2
      rw [← hP, gI_r, if_neg q1, gI_s]
      by_cases e1 : o = 122
      · rw [if_pos e1, if_neg (by omega)]
      · rw [if_neg e1]
    have p2 : ∀ k, k < 39 * u → gI P 137 k = gI S 137 k := by
      intro k hk
      rw [← hP, gI_r, if_pos rfl, if_neg (by omega)]
      exact (c1 137 k (by omega)).trans (off _ _ (by omega))
    have sP : Same domR S P := by
      rw [← hP]; exact ((st0.cl c1 c2).sI rfl).sR (fun _ => rfl)
    refine (c4 P ((p1 _ _ (by omega) (by omega)).trans ((c1 _ _ (by omega)).trans ((off _ _ (by omega)).trans hR.2.1.2.2.1))) n6 (fun k => (p1 _ _ (by omega) (by omega)).trans (c1 _ _ (by omega)))).mo ?_
    intro r' S3 ⟨e1, e2, e3, e4, e5⟩
    subst e1
    have g' : ¬ (0 : Int32) ≤ r' := by rw [i_le]; rw [i_lt] at g; simp at g ⊢; omega
    unfold f_X11_counted
    rw [if_neg g', bd_e]
    have z : ∀ o k, o ≠ 137 → (o ≠ 122 ∨ k ≠ 0) → gI S3 o k = gI T o k := by
      intro o k q1 q2
      by_cases e : o = 126
      · subst e; rw [e4 g, p1 _ _ q1 q2, c3 g]
      · rw [e2 _ _ e, p1 _ _ q1 q2, c3 g]
    refine Wp.rt ⟨rfl, (hR.sm (sP.of e2 e3)).p (o6.fr (fun q k hq => z _ _ (by omega) (by omega))) (n6.fr (fun q k hq => z _ _ (by omega) (by omega)) (fun k _ _ => z _ _ (by omega) (by omega))) ?_⟩
    exact hw.n (fun o k q1 q2 => by rw [hT]; exact z _ _ (by omega) (by omega)) ((z _ _ (by omega) (by omega)).trans ((off _ _ (by omega)).trans h3)) ((z _ _ (by omega) (by omega)).trans ((off _ _ (by omega)).trans h4)) ((z _ _ (by omega) (by omega)).trans ((off _ _ (by omega)).trans h5)) (fun k hk => (e2 _ _ (by omega)).trans (p2 k hk))
  · rw [show f_X4_settle 1 S1 = _ from settle_e ((i12 _).trans h3) ((i12 _).trans h5) h1 h2, bd_e]
    refine Wp.rt ?_
    have k28 : gI (sI (stS u f S1) 122 0 0) 122 28 = nI u := by
      rw [gI_s, if_pos rfl, if_neg (by omega), stS_off (by omega), c1 122 28 (by omega), off _ _ (by omega), h4]
    rw [lt_e, putsBy_e (u := u) k28 h1, bd_e]
    apply Wp.bd
    generalize hP : sR (sI (stS u f S1) 122 0 0) 137 _ = P
    have p1 : ∀ o k, o ≠ 137 → o ≠ 12 → (o ≠ 122 ∨ k ≠ 0) → gI P o k = gI S1 o k := by
      intro o k q1 q3 q2
      rw [← hP, gI_r, if_neg q1, gI_s]
      by_cases e1 : o = 122
      · rw [if_pos e1, if_neg (by omega), stS_off q3]
      · rw [if_neg e1, stS_off q3]
    have p2 : ∀ k, gI P 137 k = if 39 * u ≤ k ∧ k < 39 * u + 39 then gI S 126 (k - 39 * u) else gI S 137 k := by
      intro k
      have x1 : ∀ k, gI (sI (stS u f S1) 122 0 0) 126 k = gI S 126 k := fun k => by
        rw [gI_s, if_neg (by omega), stS_off (by omega), c1 126 k (by omega), off _ _ (by omega)]
      have x2 : ∀ k, gI (sI (stS u f S1) 122 0 0) 137 k = gI S 137 k := fun k => by
        rw [gI_s, if_neg (by omega), stS_off (by omega), c1 137 k (by omega), off _ _ (by omega)]
      rw [← hP, gI_r, if_pos rfl, x1, x2]
    have p12 : ∀ k, gI P 12 k = gI (stS u f S1) 12 k := by
      intro k; rw [← hP, gI_r, if_neg (by omega), gI_s, if_neg (by omega)]
    have sP : Same domR S P := by
      rw [← hP]; exact ((st0.cl c1 c2).st.sI rfl).sR (fun _ => rfl)
    refine (c4 P ((p1 _ _ (by omega) (by omega) (by omega)).trans ((c1 _ _ (by omega)).trans ((off _ _ (by omega)).trans hR.2.1.2.2.1))) n6 (fun k => (p1 _ _ (by omega) (by omega) (by omega)).trans (c1 _ _ (by omega)))).mo ?_
    intro r' S3 ⟨e1, e2, e3, e4, e5⟩
    subst e1
    have g' : (0 : Int32) ≤ r' := by rw [i_le]; rw [i_lt] at g; simp at g ⊢; omega
    unfold f_X11_counted
    have u28 : gI S3 122 28 = nI u := by rw [e2 _ _ (by omega), p1 _ _ (by omega) (by omega) (by omega), c1 _ _ (by omega), off _ _ (by omega), h4]
    rw [if_pos g', addsN r' u28 h1, bd_e, bd_e]
    obtain ⟨x1, x2⟩ := e5 g' (adS u S3) (fun o k q1 q2 => by rw [adS_off (by omega) (by omega), e2 _ _ (by omega), p1 _ _ (by omega) (by omega) (by omega)]) (fun k => adS_off (by omega) (by omega))
    refine Wp.rt ⟨rfl, (hR.sm (sP.of e2 e3).ad).p x2 x1 ?_⟩
    refine act_done hw hm hN hO S1 ((i12 _).trans h3) ((i12 _).trans h5) (fun k => (e2 _ _ (by omega)).trans (p12 k)) u28 (fun o k q1 q2 => ?_) (fun k => (e2 _ _ (by omega)).trans (p2 k))
    rw [hT, e2 _ _ (by omega), p1 _ _ (by omega) (by omega) (by omega), c1 _ _ (by omega)]
