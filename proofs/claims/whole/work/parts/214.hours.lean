/-! hours -/
theorem sub_int {a b : Nat} (ha : a < 2147483648) (hb : b < 2147483648) : (nI a - nI b).toInt = (a : Int) - b := by
  rw [Int32.toInt_sub, nI_int ha, nI_int hb]
  apply Int.bmod_eq_of_le <;> omega
theorem sumN_in {f : Nat → Int32} : ∀ {n : Nat}, n ≤ 12 → (∀ i, i < n → inR (f i) 0 9) → ∃ s, s ≤ 9 * n ∧ sumN f n = nI s
  | 0, _, _ => ⟨0, by omega, rfl⟩
  | n + 1, h, hf => by
    obtain ⟨s, h1, h2⟩ := sumN_in (n := n) (by omega) (fun i hi => hf i (by omega))
    obtain ⟨j, _, h3, h4⟩ := hf n (by omega)
    exact ⟨s + j, by omega, by show sumN f n + f n = _; rw [h2, h4, nAdd]⟩
def healN (x : Int32) (n : Int32) : Int32 := mxI 0 (x - n)
theorem heal_in {x : Int32} {h : Nat} (hx : inR x 0 9) (hh : h < 1000) : inR (healN x (nI h)) 0 9 := by
  obtain ⟨j, _, h2, rfl⟩ := hx
  unfold healN mxI
  by_cases g : (0 : Int32) < nI j - nI h
  · rw [if_pos g]
    rw [i_lt, sub_int (by omega) (by omega)] at g
    simp at g
    rw [nSub (by omega)]; exact ⟨j - h, by omega, by omega, rfl⟩
  · rw [if_neg g]; exact ⟨0, by omega, by omega, rfl⟩
theorem heal_e {S : St} {m : Nat} (x : Int32) (hm : gI S 3 2 = nI m) (h12 : m ≤ 12) : f_X0_heal x S = some ((), sI (sR S 9 (fun k => if k < m then healN (gI S 9 k) x else gI S 9 k)) 6 4 (gI S 6 4 + x)) := by
  unfold f_X0_heal
  have e0 : sR S 9 (fun k => if k < 0 then healN (gI S 9 k) x else gI S 9 k) = S := sR_0 (fun k => if_neg (by omega))
  have := lp_for (body := f_X0_heal_2b x (fun v4 S5 => lt (sI S5 6 4 ((gI S5 6 4) + x)) (fun S6 => some ((), S6)))) m (fun i => (nI i, sR S 9 (fun k => if k < i then healN (gI S 9 k) x else gI S 9 k))) (out := some ((), sI (sR S 9 (fun k => if k < m then healN (gI S 9 k) x else gI S 9 k)) 6 4 (gI S 6 4 + x))) (fun i k hi => ?_) (fun k => ?_) FU 0 (by omega) (by unfold FU; omega)
  · simp only [e0] at this; exact this
  · unfold f_X0_heal_2b
    simp (disch := omega) only [gI_r, Nat.reduceEqDiff, if_false, hm, lit, inb_nI, nLt, nLe, nEq, nAdd, nI_t, nMul, nSub, lt_e, Nat.not_le.mpr hi, if_true, show i < 12 by omega, Nat.lt_irrefl]
    rw [sR_I]
    congr 1
    apply sR_e
    intro j
    by_cases ej : j = i
    · rw [if_pos ej, if_pos (by omega), ej]; rfl
    · rw [if_neg ej]
      by_cases ek : j < i
      · rw [if_pos ek, if_pos (by omega)]
      · rw [if_neg ek, if_neg (by omega)]
  · unfold f_X0_heal_2b
    simp (disch := omega) only [gI_r, Nat.reduceEqDiff, if_false, hm, lit, inb_nI, nLt, nLe, nEq, nAdd, nI_t, nMul, nSub, lt_e, Nat.le_refl, if_true]
theorem hoursGo_e {S : St} {m ar : Nat} (x : Int32) (hm : gI S 122 3 = nI m) (h12 : m ≤ 12) (har : ar ≠ 122) : f_X11_hoursGo ar x S = some ((), sR S ar (fun k => if k = 37 then gI S ar 37 + x else if 24 ≤ k ∧ k < 24 + m then healN (gI S ar k) x else gI S ar k)) := by
  unfold f_X11_hoursGo
  have e0 : sR S ar (fun k => if 24 ≤ k ∧ k < 24 + 0 then healN (gI S ar k) x else gI S ar k) = S := sR_0 (fun k => if_neg (by omega))
  have := lp_for (body := f_X11_hoursGo_2b ar x (fun v4 S5 => lt (sI S5 ar 37 ((gI S5 ar 37) + x)) (fun S6 => some ((), S6)))) m (fun i => (nI i, sR S ar (fun k => if 24 ≤ k ∧ k < 24 + i then healN (gI S ar k) x else gI S ar k))) (out := some ((), sR S ar (fun k => if k = 37 then gI S ar 37 + x else if 24 ≤ k ∧ k < 24 + m then healN (gI S ar k) x else gI S ar k))) (fun i k hi => ?_) (fun k => ?_) FU 0 (by omega) (by unfold FU; omega)
  · simp only [e0] at this; exact this
  · unfold f_X11_hoursGo_2b
    have q1 : gI (sR S ar (fun k => if 24 ≤ k ∧ k < 24 + i then healN (gI S ar k) x else gI S ar k)) 122 3 = nI m := by rw [gI_r, if_neg (fun e => har e.symm)]; exact hm
    have q2 : gI (sR S ar (fun k => if 24 ≤ k ∧ k < 24 + i then healN (gI S ar k) x else gI S ar k)) ar (24 + i) = gI S ar (24 + i) := by rw [gI_r, if_pos rfl, if_neg (by omega)]
    simp (disch := omega) only [q1, q2, lit, inb_nI, nLt, nLe, nEq, nAdd, nI_t, nMul, nSub, lt_e, Nat.not_le.mpr hi, if_true, if_false, show 24 + i < 39 by omega]
    rw [sR_I]
    congr 1
    apply sR_e
    intro j
    by_cases ej : j = 24 + i
    · rw [if_pos ej, if_pos (by omega), ej]; rfl
    · rw [if_neg ej]
      by_cases ek : 24 ≤ j ∧ j < 24 + i
      · rw [if_pos ek, if_pos (by omega)]
      · rw [if_neg ek, if_neg (by omega)]
  · unfold f_X11_hoursGo_2b
    have q1 : gI (sR S ar (fun k => if 24 ≤ k ∧ k < 24 + m then healN (gI S ar k) x else gI S ar k)) 122 3 = nI m := by rw [gI_r, if_neg (fun e => har e.symm)]; exact hm
    simp (disch := omega) only [q1, lit, inb_nI, nLt, nLe, nEq, nAdd, nI_t, nMul, nSub, lt_e, Nat.le_refl, if_true, sR_I]
    congr 2
    apply sR_e
    intro j
    by_cases ej : j = 37
    · rw [if_pos ej, if_pos ej, gI_r, if_pos rfl, if_neg (by omega)]
    · rw [if_neg ej, if_neg ej]
theorem eq_hours (a1 : Int32) : EQ1 RelP (f_X10_hours a1) (f_X11_hours a1) := by
  by_cases hb : ¬ a1 < nI 0 ∧ ¬ nI 60 < a1
  · obtain ⟨h, hh, rfl⟩ := as_le hb.1 hb.2
    have h60 : h ≤ 60 := hh
    have key : EQ1 RelP (f_X10_hours (nI h)) (fun S => lt (sI S 122 0 (0 : Int32)) (fun S1 => bd (f_X11_putsBy S1) (fun r2 S3 => bd ((fun S6 => bd (f_X11_hoursGo 126 (nI h) S6) (fun r8 S9 => f_X11_sumOf 126 (24 : Int32) S9)) S3) (fun r5 S6 => bd (f_X11_counted r5 S6) (fun r8 S9 => some (r8, S9)))))) := by
      refine act_eq (A := f_X10_passHours (nI h)) (B := fun S6 => bd (f_X11_hoursGo 126 (nI h) S6) (fun r8 S9 => f_X11_sumOf 126 (24 : Int32) S9)) rfl rfl ?_
      intro S m hm hC hO
      obtain ⟨o1, o2, o3⟩ := id hO
      have hin : ∀ i, i < m → inR (gI (sI (sR S 9 (fun k => if k < m then healN (gI S 9 k) (nI h) else gI S 9 k)) 6 4 (gI S 6 4 + nI h)) 9 i) 0 9 := by
        intro i hi
        rw [gI_s, if_neg (by omega), gI_r, if_pos rfl, if_pos hi]
        exact heal_in (o1 i hi).2.2 (by omega)
      obtain ⟨s, hs1, hs2⟩ := sumN_in hm hin
      unfold f_X10_passHours
      have q3 : gI (sI (sR S 9 (fun k => if k < m then healN (gI S 9 k) (nI h) else gI S 9 k)) 6 4 (gI S 6 4 + nI h)) 3 2 = nI m := hC
      simp (disch := omega) only [lit, inb_nI, nLt, nLe, nEq, nAdd, nI_t, nMul, nSub, Nat.not_lt_zero, if_false, h60, if_true, heal_e _ hC hm, bd_e, wear_e q3 hm, hs2]
      refine Wp.rt ⟨fun o k h => ?_, fun o k => rfl, fun h => absurd h (not_neg (by omega)), ?_⟩
      · rw [gI_s, if_neg (by omega), gI_r, if_neg (by omega)]
      intro S2 c2 hN hk
      rw [hoursGo_e _ c2 hm (by omega), bd_e]
      have q4 : gI (sR S2 126 (fun k => if k = 37 then gI S2 126 37 + nI h else if 24 ≤ k ∧ k < 24 + m then healN (gI S2 126 k) (nI h) else gI S2 126 k)) 122 3 = nI m := c2
      rw [show nI 24 = nI 24 from rfl, sumOf_e q4 (by omega)]
      obtain ⟨n1, n2, n3, n4⟩ := id hN
      refine Wp.rt ⟨?_, fun o k h => ?_, fun o k => rfl, fun h => absurd h (not_neg (by omega)), fun _ E e1 e2 => ?_⟩
      · rw [← hs2]
        apply sumN_e
        intro i hi
        rw [gI_r, if_pos rfl, if_neg (by omega), if_pos (by omega), hk, gI_s, if_neg (by omega), gI_r, if_pos rfl, if_pos hi]
        rw [show gI S 9 i = gI S 126 (0 + 24 + i) from (n1 i (by omega)).2.2, Nat.zero_add]
      · rw [gI_r, if_neg h]
      · have r : ∀ k, gI E 126 k = if k = 37 then gI S 126 37 + nI h else if 24 ≤ k ∧ k < 24 + m then healN (gI S 126 k) (nI h) else gI S 126 k := by
          intro k
          rw [e2 k, gI_r, if_pos rfl, hk, hk]
        have q6 : ∀ k, gI E 6 k = if k = 4 then gI S 6 4 + nI h else gI S 6 k := fun k => by rw [e1 6 k (by omega) (by omega)]; rfl
        have q9 : ∀ k, gI E 9 k = if k < m then healN (gI S 9 k) (nI h) else gI S 9 k := fun k => by rw [e1 9 k (by omega) (by omega)]; rfl
        have q7 : ∀ k, gI E 7 k = gI S 7 k := fun k => by rw [e1 7 k (by omega) (by omega)]; rfl
        have q8 : ∀ k, gI E 8 k = gI S 8 k := fun k => by rw [e1 8 k (by omega) (by omega)]; rfl
        refine ⟨⟨fun i hi => ?_, ?_, ?_, ?_⟩, fun i hi => ?_, ?_, ?_⟩
        · show gI E 7 i = _ ∧ gI E 8 i = _ ∧ gI E 9 i = _
          obtain ⟨z1, z2, z3⟩ := n1 i hi
          rw [q7, q8, q9, r, r, r]
          refine ⟨?_, ?_, ?_⟩
          · simp (disch := omega) only [if_neg]; exact z1
          · simp (disch := omega) only [if_neg]; exact z2
          · have z3' : gI S 9 i = gI S 126 (0 + 24 + i) := z3
            by_cases e : i < m
            · rw [if_pos e, if_neg (by omega), if_pos (by omega), z3']
            · rw [if_neg e, if_neg (by omega), if_neg (by omega), z3']
        · rw [q6, r]; simp (disch := omega) only [if_neg]; exact n2
        · rw [q6, r]; simp (disch := omega) only [if_pos]; exact congrArg (· + nI h) n3
        · rw [q6, r]; simp (disch := omega) only [if_neg]; exact n4
        · show inR (gI E 7 i) 1 9 ∧ inR (gI E 8 i) 0 9 ∧ inR (gI E 9 i) 0 9
          rw [q7, q8, q9, if_pos hi]
          obtain ⟨z1, z2, z3⟩ := o1 i hi
          exact ⟨z1, z2, heal_in z3 (by omega)⟩
        · rw [q6, if_neg (by omega)]; exact o2
        · rw [q6, if_neg (by omega)]; exact o3
    have nn : ∀ S, RelP S → Wp (f_X10_hours (nI h) S) (fun r _ => ¬ r < 0) := by
      intro S hS
      obtain ⟨m, u, f, hR, hO, hN, hw⟩ := hS.r
      have hm : m ≤ 12 := hR.2.1.1
      unfold f_X10_hours
      rw [mark_e hw, bd_e]
      have sl : 14 ≤ 14 + 4 * ((f + u) % 16) ∧ 14 + 4 * ((f + u) % 16) ≤ 74 := by omega
      have off : ∀ o k, (o < 14 ∨ 77 < o) → gI (tk S (14 + 4 * ((f + u) % 16)) 6) o k = gI S o k := fun o k h => tk_off (by omega)
      have hw' := id hw
      obtain ⟨h1, h2, h3, h4, h5, h6⟩ := hw'
      generalize tk S (14 + 4 * ((f + u) % 16)) 6 = T at *
      have hC : gI T 3 2 = nI m := (off _ _ (by omega)).trans hR.2.1.2.1
      have hin : ∀ i, i < m → inR (gI (sI (sR T 9 (fun k => if k < m then healN (gI T 9 k) (nI h) else gI T 9 k)) 6 4 (gI T 6 4 + nI h)) 9 i) 0 9 := by
        intro i hi
        rw [gI_s, if_neg (by omega), gI_r, if_pos rfl, if_pos hi, off _ _ (by omega)]
        exact heal_in (hO.1 i hi).2.2 (by omega)
      obtain ⟨s, hs1, hs2⟩ := sumN_in hm hin
      unfold f_X10_passHours
      have q3 : gI (sI (sR T 9 (fun k => if k < m then healN (gI T 9 k) (nI h) else gI T 9 k)) 6 4 (gI T 6 4 + nI h)) 3 2 = nI m := hC
      have q4 : gI (sI (sR T 9 (fun k => if k < m then healN (gI T 9 k) (nI h) else gI T 9 k)) 6 4 (gI T 6 4 + nI h)) 12 2 = nI u := (off _ _ (by omega)).trans h3
      have q5 : gI (sI (sR T 9 (fun k => if k < m then healN (gI T 9 k) (nI h) else gI T 9 k)) 6 4 (gI T 6 4 + nI h)) 12 1 = nI f := (off _ _ (by omega)).trans h5
      simp (disch := omega) only [lit, inb_nI, nLt, nLe, nEq, nAdd, nI_t, nMul, nSub, Nat.not_lt_zero, if_false, h60, if_true, heal_e _ hC hm, bd_e, wear_e q3 hm, hs2, f_X10_hours_33, settle_e q4 q5 h1 h2]
      exact Wp.rt (not_neg (by omega))
    intro S hS
    obtain ⟨r, S1, S2, e1, e2, e3⟩ := key S hS
    refine ⟨r, S1, S2, e1, ?_, e3⟩
    obtain ⟨r0, S0, e0, hr⟩ := nn S hS
    rw [e1] at e0
    cases e0
    rw [← e2]
    unfold f_X11_hours
    have h60' : ¬ 60 < h := by omega
    simp only [lt_e, bd_e, fl3z, fl2z, fl6z, in0, in2, in_0_2, in_0_3, in_0_4, in_0_5, in_0_7, in_0_9, in_0_10, in_0_20, in_0_60, in_0_255, in_1_9, in_1_6, in_1_60, in_2_9, in_48_57, in_97_104]
    rw [if_pos (by rw [nLt (by omega) (by omega), nLt (by omega) (by omega)]; omega)]
    simp only [lt_e] at e2
    cases hp : f_X11_putsBy (sI S1 122 0 0) with
    | none => rw [hp] at e2; cases e2
    | some x =>
      obtain ⟨_, P⟩ := x
      rw [hp] at e2
      simp only [bd_e] at e2 ⊢
      cases hg : f_X11_hoursGo 126 (nI h) P with
      | none => rw [hg] at e2; cases e2
      | some x =>
        obtain ⟨_, P2⟩ := x
        rw [hg] at e2
        simp only [bd_e] at e2 ⊢
        cases hs : f_X11_sumOf 126 24 P2 with
        | none => rw [hs] at e2; cases e2
        | some x =>
          obtain ⟨v, P3⟩ := x
          rw [hs] at e2
          simp only [bd_e] at e2 ⊢
          unfold f_X11_counted at e2 ⊢
          by_cases g : (0 : Int32) ≤ v
          · rw [if_pos g]
            cases f_X11_adds v P3 with
            | none => rfl
            | some x => rfl
          · rw [if_neg g, bd_e] at e2
            cases e2
            exact absurd (show r < 0 by rw [i_lt]; rw [i_le] at g; omega) hr
  · apply EQ1.of
    intro S hS
    obtain ⟨m, u, f, hR, hO, hN, hw⟩ := hS.r
    have hm : m ≤ 12 := hR.2.1.1
    unfold f_X10_hours f_X11_hours
    rw [mark_e hw, bd_e]
    have hp : f_X10_passHours a1 (tk S (14 + 4 * ((f + u) % 16)) 6) = some (-nI 1, tk S (14 + 4 * ((f + u) % 16)) 6) := by
      unfold f_X10_passHours
      simp only [lit]
      by_cases g1 : a1 < nI 0
      · simp only [g1, if_true]
      · have g2 : ¬ a1 ≤ nI 60 := fun q => hb ⟨g1, by rw [i_lt]; rw [i_le] at q; omega⟩
        simp only [g1, g2, if_false]
    rw [hp, bd_e, if_pos (by decide)]
    refine Wp.rt ?_
    simp only [lt_e, bd_e, fl3z, fl2z, fl6z, in0, in2, in_0_2, in_0_3, in_0_4, in_0_5, in_0_7, in_0_9, in_0_10, in_0_20, in_0_60, in_0_255, in_1_9, in_1_6, in_1_60, in_2_9, in_48_57, in_97_104, if_neg hb]
    refine Wp.rt ⟨rfl, ?_⟩
    have hw' := id hw
    obtain ⟨h1, h2, h3, h4, h5, h6⟩ := hw'
    have sl : 14 ≤ 14 + 4 * ((f + u) % 16) ∧ 14 + 4 * ((f + u) % 16) ≤ 74 := by omega
    have off : ∀ o k, (o < 14 ∨ 77 < o) → gI (tk S (14 + 4 * ((f + u) % 16)) 6) o k = gI S o k := fun o k h => tk_off (by omega)
    apply RelP.th
    refine (hR.sm ((Same.rf S).tk sl.1 sl.2)).p (hO.fr (fun q k hq => off _ _ (by omega))) (hN.fr (fun q k hq => off _ _ (by omega)) (fun k _ _ => off _ _ (by omega))) ?_
    exact hw.n (fun o k _ _ => rfl) ((off _ _ (by omega)).trans h3) ((off _ _ (by omega)).trans h4) ((off _ _ (by omega)).trans h5) (fun k hk => off _ _ (by omega))
