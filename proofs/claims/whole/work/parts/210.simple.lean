/-! the simple ones -/
theorem RelP.th {S : St} {v : Int32} (h : RelP S) : RelP (sI S 122 0 v) := h.sim ((Sim.rf S).sI (by decide +kernel))
theorem eq_end (a1 : Int32) : EQ1 RelP (f_X10_end a1) (f_X11_end a1) := by
  apply EQ1.of
  intro S hS
  obtain ⟨hT, ⟨m, hC, hO, hH, hK⟩, hN, hR, hF, hE, hU⟩ := id hS
  obtain ⟨n, t1, t2, t3, t4, t5⟩ := id hT
  unfold f_X10_end f_X11_end
  have e : ∀ S' : St, gI (sI S' 122 0 (nI 0)) 122 10 = gI S' 122 10 := fun _ => rfl
  have e1 : ∀ S' : St, gI (sI S' 1 1 a1) 122 10 = gI S' 122 10 := fun _ => rfl
  simp only [lt_e, in0, bd_e, lit, fl3, e, e1]
  refine Wp.it (fun h1 => Wp.rt ?_) (fun h1 => Wp.it (fun h2 => Wp.rt ?_) (fun h2 => Wp.rt ?_))
  · rw [if_neg (fun h => h.1 h1)]
    exact Wp.rt ⟨rfl, hS.th⟩
  · have h3 : ¬ gI S 122 10 < a1 := by rw [t3, ← t2]; rw [i_le] at h2; rw [i_lt]; omega
    rw [if_pos ⟨h1, h3⟩]
    refine Wp.rt ⟨rfl, ?_, ⟨m, hC.fr, hO.f6, hH.fr, hK.fr⟩, hN.f6, hR.fr, hF.fr, hE.fr, hU.fr⟩
    obtain ⟨k, hk, rfl⟩ := as_nI h1 (b := n + 1) (by omega) (Or.inr ⟨by rw [Nat.add_sub_cancel, ← t2]; exact h2, by omega⟩)
    exact ⟨k, by omega, rfl, rfl, fun i hi => t4 i (by omega), t5⟩
  · rw [if_neg (fun h => h2 (by have := h.2; rw [t3, ← t2] at this; rw [i_lt] at this; rw [i_le]; omega))]
    exact Wp.rt ⟨rfl, hS.th⟩
theorem eq_forget : EQ1 RelP f_X10_forget f_X11_forget := by
  apply EQ1.of
  intro S hS
  obtain ⟨hT, ⟨m, hC, hO, hH, hK⟩, hN, hR, ⟨q, q1, q2, q3, q4⟩, hE, hU⟩ := id hS
  unfold f_X10_forget f_X11_forget
  refine Wp.rt (Wp.rt ⟨?_, hT.fr, ⟨m, hC.fr, hO.f6, hH.fr, hK.fr⟩, hN.f6, hR.fr, ?_, hE.fr, hU.fr⟩)
  · exact q3.trans q2.symm
  · exact ⟨0, by omega, rfl, rfl, fun i hi => absurd hi (by omega)⟩
theorem eq_denied : EQ1 RelP f_X10_denied f_X11_denied := by
  apply EQ1.of
  intro S hS
  obtain ⟨hT, ⟨m, hC, hO, hH, hK⟩, hN, hR, hF, ⟨q, q1, q2, q3, q4⟩, hU⟩ := id hS
  unfold f_X10_denied f_X11_denied
  refine Wp.rt (Wp.rt ⟨?_, hT.fr, ⟨m, hC.fr, hO.f6, hH.fr, hK.fr⟩, hN.f6, hR.fr, hF.fr, ?_, hU.fr⟩)
  · exact q3.trans q2.symm
  · exact ⟨0, by omega, rfl, rfl, fun i hi => absurd hi (by omega)⟩
theorem eq_told (a1 a2 : Int32) : EQ1 RelP (f_X10_told a1 a2) (f_X11_told a1 a2) := by
  apply EQ1.of
  intro S hS
  obtain ⟨hT, ⟨m, hC, hO, hH, hK⟩, hN, hR, ⟨q, q1, q2, q3, q4⟩, hE, hU⟩ := id hS
  have key : ∀ x3 s0 : Int32, (a1 = nI 3 → x3 = nI 0 ∧ s0 = nI 1) → Wp (bd (f_X1_add_31 a1 a2 x3 s0 S) (fun r1 S2 => (if r1 = 0 then some ((-1 : Int32), S2) else some ((gI S2 101 3), S2)))) (fun r S1 => Wp (f_X11_told_39 a1 a2 x3 s0 (sI S1 122 0 0)) (fun r' S2 => r' = r ∧ RelP S2)) := by
    intro x3 s0 h30
    unfold f_X1_add_31 f_X11_told_39
    by_cases g1 : a1 < nI 0
    · simp only [lit, lt_e, bd_e, fl3, in0, in2, in_0_2, in_0_3, in_0_4, in_0_5, in_0_7, in_0_9, in_0_10, in_0_20, in_0_60, in_0_255, in_1_9, in_1_6, in_1_60, in_2_9, if_true, if_false, not_true, not_false_iff, and_true, true_and, and_false, false_and, and_self, or_true, true_or, or_false, false_or, ite_true, ite_false, not_true_eq_false, not_false_eq_true, ↓reduceIte, g1]; exact Wp.rt (Wp.rt ⟨rfl, hS.th⟩)
    by_cases g2 : nI 4 < a1
    · simp only [lit, lt_e, bd_e, fl3, in0, in2, in_0_2, in_0_3, in_0_4, in_0_5, in_0_7, in_0_9, in_0_10, in_0_20, in_0_60, in_0_255, in_1_9, in_1_6, in_1_60, in_2_9, if_true, if_false, not_true, not_false_iff, and_true, true_and, and_false, false_and, and_self, or_true, true_or, or_false, false_or, ite_true, ite_false, not_true_eq_false, not_false_eq_true, ↓reduceIte, g1, g2]; exact Wp.rt (Wp.rt ⟨rfl, hS.th⟩)
    by_cases g3 : a2 < x3
    · simp only [lit, lt_e, bd_e, fl3, in0, in2, in_0_2, in_0_3, in_0_4, in_0_5, in_0_7, in_0_9, in_0_10, in_0_20, in_0_60, in_0_255, in_1_9, in_1_6, in_1_60, in_2_9, if_true, if_false, not_true, not_false_iff, and_true, true_and, and_false, false_and, and_self, or_true, true_or, or_false, false_or, ite_true, ite_false, not_true_eq_false, not_false_eq_true, ↓reduceIte, g1, g2, g3]; exact Wp.rt (Wp.rt ⟨rfl, hS.th⟩)
    by_cases g4 : s0 < a2
    · simp only [lit, lt_e, bd_e, fl3, in0, in2, in_0_2, in_0_3, in_0_4, in_0_5, in_0_7, in_0_9, in_0_10, in_0_20, in_0_60, in_0_255, in_1_9, in_1_6, in_1_60, in_2_9, if_true, if_false, not_true, not_false_iff, and_true, true_and, and_false, false_and, and_self, or_true, true_or, or_false, false_or, ite_true, ite_false, not_true_eq_false, not_false_eq_true, ↓reduceIte, g1, g2, g3, g4]; exact Wp.rt (Wp.rt ⟨rfl, hS.th⟩)
    by_cases g5 : q < 12
    · have g6 : ¬ q = 12 := by omega
      simp (disch := omega) only [lt_e, bd_e, fl3, in0, in2, in_0_2, in_0_3, in_0_4, in_0_5, in_0_7, in_0_9, in_0_10, in_0_20, in_0_60, in_0_255, in_1_9, in_1_6, in_1_60, in_2_9, if_true, if_false, not_true, not_false_iff, and_true, true_and, and_false, false_and, and_self, or_true, true_or, or_false, false_or, ite_true, ite_false, not_true_eq_false, not_false_eq_true, ↓reduceIte, lit, inb_nI, nLt, nLe, nEq, nAdd, nI_t, nMul, nSub, g1, g2, g3, g4, q2, g5, gI_s, Nat.reduceEqDiff]
      refine Wp.rt ?_
      simp (disch := omega) only [lt_e, bd_e, fl3, in0, in2, in_0_2, in_0_3, in_0_4, in_0_5, in_0_7, in_0_9, in_0_10, in_0_20, in_0_60, in_0_255, in_1_9, in_1_6, in_1_60, in_2_9, if_true, if_false, not_true, not_false_iff, and_true, true_and, and_false, false_and, and_self, or_true, true_or, or_false, false_or, ite_true, ite_false, not_true_eq_false, not_false_eq_true, ↓reduceIte, lit, inb_nI, nLt, nLe, nEq, nAdd, nI_t, nMul, nSub, g1, g2, g3, g4, q3, g5, g6, gI_s, Nat.reduceEqDiff]
      refine Wp.rt ⟨rfl, hT.fr, ⟨m, hC.fr, hO.f6, hH.fr, hK.fr⟩, hN.f6, hR.fr, ⟨q + 1, by omega, rfl, rfl, fun i hi => ?_⟩, hE.fr, hU.fr⟩
      simp only [gI_s, Nat.reduceEqDiff, if_true, if_false]
      by_cases e : i = q
      · simp only [e, if_true]
        obtain ⟨n, hn, rfl⟩ := as_le g1 g2
        refine ⟨trivial, trivial, ⟨n, by omega, by omega, rfl⟩, fun h3 => ?_⟩
        obtain ⟨rfl, rfl⟩ := h30 h3
        obtain ⟨k, hk, rfl⟩ := as_le g3 g4
        have : k = 0 ∨ k = 1 := by omega
        rcases this with rfl | rfl
        · exact Or.inl rfl
        · exact Or.inr rfl
      · simp only [e, if_false]; exact q4 i (by omega)
    · have g6 : q = 12 := by omega
      subst g6
      simp (disch := omega) only [lt_e, bd_e, fl3, in0, in2, in_0_2, in_0_3, in_0_4, in_0_5, in_0_7, in_0_9, in_0_10, in_0_20, in_0_60, in_0_255, in_1_9, in_1_6, in_1_60, in_2_9, if_true, if_false, not_true, not_false_iff, and_true, true_and, and_false, false_and, and_self, or_true, true_or, or_false, false_or, ite_true, ite_false, not_true_eq_false, not_false_eq_true, ↓reduceIte, lit, inb_nI, nLt, nLe, nEq, nAdd, nI_t, nMul, nSub, g1, g2, g3, g4, q2, gI_s, Nat.reduceEqDiff, Nat.reduceLT]
      refine Wp.rt ?_
      simp (disch := omega) only [lt_e, bd_e, fl3, in0, in2, in_0_2, in_0_3, in_0_4, in_0_5, in_0_7, in_0_9, in_0_10, in_0_20, in_0_60, in_0_255, in_1_9, in_1_6, in_1_60, in_2_9, if_true, if_false, not_true, not_false_iff, and_true, true_and, and_false, false_and, and_self, or_true, true_or, or_false, false_or, ite_true, ite_false, not_true_eq_false, not_false_eq_true, ↓reduceIte, lit, inb_nI, nLt, nLe, nEq, nAdd, nI_t, nMul, nSub, g1, g2, g3, g4, q3, gI_s, Nat.reduceEqDiff]
      exact Wp.rt ⟨rfl, hS.th⟩
  unfold f_X10_told f_X11_told f_X1_add f_X11_told_14 f_X1_add_9
  by_cases c0 : a1 = nI 0
  · subst c0
    have := key (nI 1) (nI 9) (fun h => absurd h (by decide))
    simpa (disch := omega) only [lt_e, bd_e, fl3, in0, in2, in_0_2, in_0_3, in_0_4, in_0_5, in_0_7, in_0_9, in_0_10, in_0_20, in_0_60, in_0_255, in_1_9, in_1_6, in_1_60, in_2_9, if_true, if_false, not_true, not_false_iff, and_true, true_and, and_false, false_and, and_self, or_true, true_or, or_false, false_or, ite_true, ite_false, not_true_eq_false, not_false_eq_true, ↓reduceIte, lit, inb_nI, nLt, nLe, nEq, nAdd, nI_t, nMul, nSub, flagN, Nat.reduceEqDiff] using this
  by_cases c1 : a1 = nI 1
  · subst c1
    have := key (nI 0) (nI 7) (fun h => absurd h (by decide))
    simpa (disch := omega) only [lt_e, bd_e, fl3, in0, in2, in_0_2, in_0_3, in_0_4, in_0_5, in_0_7, in_0_9, in_0_10, in_0_20, in_0_60, in_0_255, in_1_9, in_1_6, in_1_60, in_2_9, if_true, if_false, not_true, not_false_iff, and_true, true_and, and_false, false_and, and_self, or_true, true_or, or_false, false_or, ite_true, ite_false, not_true_eq_false, not_false_eq_true, ↓reduceIte, lit, inb_nI, nLt, nLe, nEq, nAdd, nI_t, nMul, nSub, flagN, Nat.reduceEqDiff] using this
  by_cases c3 : a1 = nI 3
  · subst c3
    have := key (nI 0) (nI 1) (fun h => ⟨rfl, rfl⟩)
    simpa (disch := omega) only [lt_e, bd_e, fl3, in0, in2, in_0_2, in_0_3, in_0_4, in_0_5, in_0_7, in_0_9, in_0_10, in_0_20, in_0_60, in_0_255, in_1_9, in_1_6, in_1_60, in_2_9, if_true, if_false, not_true, not_false_iff, and_true, true_and, and_false, false_and, and_self, or_true, true_or, or_false, false_or, ite_true, ite_false, not_true_eq_false, not_false_eq_true, ↓reduceIte, lit, inb_nI, nLt, nLe, nEq, nAdd, nI_t, nMul, nSub, flagN, Nat.reduceEqDiff] using this
  have := key (nI 0) (nI 9) (fun h => absurd h c3)
  simpa (disch := omega) only [lt_e, bd_e, fl3, in0, in2, in_0_2, in_0_3, in_0_4, in_0_5, in_0_7, in_0_9, in_0_10, in_0_20, in_0_60, in_0_255, in_1_9, in_1_6, in_1_60, in_2_9, if_true, if_false, not_true, not_false_iff, and_true, true_and, and_false, false_and, and_self, or_true, true_or, or_false, false_or, ite_true, ite_false, not_true_eq_false, not_false_eq_true, ↓reduceIte, lit, inb_nI, nLt, nLe, nEq, nAdd, nI_t, nMul, nSub, flagN, Nat.reduceEqDiff, c0, c1, c3] using this
theorem eq_heard (a1 a2 a3 : Int32) : EQ1 RelP (f_X10_heard a1 a2 a3) (f_X11_heard a1 a2 a3) := by
  apply EQ1.of
  intro S hS
  obtain ⟨hT, ⟨m, hC, hO, hH, hK⟩, hN, hR, hF, ⟨q, q1, q2, q3, q4⟩, hU⟩ := id hS
  unfold f_X10_heard f_X11_heard f_X3_add f_X3_add_14 f_X3_add_15 f_X10_isLetter
  have k8 : ∀ x : Int32, (nI 8 ≤ x) = (nI 7 < x) := fun x => by rw [i_le, i_lt, nI_int (by omega), nI_int (by omega)]; apply propext; omega
  by_cases g1 : a1 < nI 0
  · simp only [lit, lt_e, bd_e, fl3, in0, in2, in_0_2, in_0_3, in_0_4, in_0_5, in_0_7, in_0_9, in_0_10, in_0_20, in_0_60, in_0_255, in_1_9, in_1_6, in_1_60, in_2_9, if_true, if_false, not_true, not_false_iff, and_true, true_and, and_false, false_and, and_self, or_true, true_or, or_false, false_or, ite_true, ite_false, not_true_eq_false, not_false_eq_true, ↓reduceIte, g1, ite_self]; exact Wp.rt (Wp.rt ⟨rfl, hS.th⟩)
  by_cases g2 : nI 7 < a1
  · simp only [lit, lt_e, bd_e, fl3, in0, in2, in_0_2, in_0_3, in_0_4, in_0_5, in_0_7, in_0_9, in_0_10, in_0_20, in_0_60, in_0_255, in_1_9, in_1_6, in_1_60, in_2_9, if_true, if_false, not_true, not_false_iff, and_true, true_and, and_false, false_and, and_self, or_true, true_or, or_false, false_or, ite_true, ite_false, not_true_eq_false, not_false_eq_true, ↓reduceIte, g1, g2, k8, ite_self]; exact Wp.rt (Wp.rt ⟨rfl, hS.th⟩)
  by_cases g3 : a2 < nI 0
  · simp only [lit, lt_e, bd_e, fl3, in0, in2, in_0_2, in_0_3, in_0_4, in_0_5, in_0_7, in_0_9, in_0_10, in_0_20, in_0_60, in_0_255, in_1_9, in_1_6, in_1_60, in_2_9, if_true, if_false, not_true, not_false_iff, and_true, true_and, and_false, false_and, and_self, or_true, true_or, or_false, false_or, ite_true, ite_false, not_true_eq_false, not_false_eq_true, ↓reduceIte, g1, g2, g3, k8, n10]; exact Wp.rt (Wp.rt ⟨rfl, hS.th⟩)
  by_cases g4 : nI 9 < a2
  · simp only [lit, lt_e, bd_e, fl3, in0, in2, in_0_2, in_0_3, in_0_4, in_0_5, in_0_7, in_0_9, in_0_10, in_0_20, in_0_60, in_0_255, in_1_9, in_1_6, in_1_60, in_2_9, if_true, if_false, not_true, not_false_iff, and_true, true_and, and_false, false_and, and_self, or_true, true_or, or_false, false_or, ite_true, ite_false, not_true_eq_false, not_false_eq_true, ↓reduceIte, g1, g2, g3, g4, k8, n10]; exact Wp.rt (Wp.rt ⟨rfl, hS.th⟩)
  by_cases g7 : a3 < nI 0
  · simp only [lit, lt_e, bd_e, fl3, in0, in2, in_0_2, in_0_3, in_0_4, in_0_5, in_0_7, in_0_9, in_0_10, in_0_20, in_0_60, in_0_255, in_1_9, in_1_6, in_1_60, in_2_9, if_true, if_false, not_true, not_false_iff, and_true, true_and, and_false, false_and, and_self, or_true, true_or, or_false, false_or, ite_true, ite_false, not_true_eq_false, not_false_eq_true, ↓reduceIte, g1, g2, g3, g4, g7, k8, n10]; exact Wp.rt (Wp.rt ⟨rfl, hS.th⟩)
  by_cases g8 : nI 7 < a3
  · simp only [lit, lt_e, bd_e, fl3, in0, in2, in_0_2, in_0_3, in_0_4, in_0_5, in_0_7, in_0_9, in_0_10, in_0_20, in_0_60, in_0_255, in_1_9, in_1_6, in_1_60, in_2_9, if_true, if_false, not_true, not_false_iff, and_true, true_and, and_false, false_and, and_self, or_true, true_or, or_false, false_or, ite_true, ite_false, not_true_eq_false, not_false_eq_true, ↓reduceIte, g1, g2, g3, g4, g7, g8, k8, n10]; exact Wp.rt (Wp.rt ⟨rfl, hS.th⟩)
  by_cases g5 : q < 10
  · have g6 : ¬ q = 10 := by omega
    simp (disch := omega) only [lt_e, bd_e, fl3, in0, in2, in_0_2, in_0_3, in_0_4, in_0_5, in_0_7, in_0_9, in_0_10, in_0_20, in_0_60, in_0_255, in_1_9, in_1_6, in_1_60, in_2_9, if_true, if_false, not_true, not_false_iff, and_true, true_and, and_false, false_and, and_self, or_true, true_or, or_false, false_or, ite_true, ite_false, not_true_eq_false, not_false_eq_true, ↓reduceIte, lit, inb_nI, nLt, nLe, nEq, nAdd, nI_t, nMul, nSub, g1, g2, g3, g4, g7, g8, k8, n10, q2, g5, gI_s, Nat.reduceEqDiff]
    refine Wp.rt ?_
    simp (disch := omega) only [lt_e, bd_e, fl3, in0, in2, in_0_2, in_0_3, in_0_4, in_0_5, in_0_7, in_0_9, in_0_10, in_0_20, in_0_60, in_0_255, in_1_9, in_1_6, in_1_60, in_2_9, if_true, if_false, not_true, not_false_iff, and_true, true_and, and_false, false_and, and_self, or_true, true_or, or_false, false_or, ite_true, ite_false, not_true_eq_false, not_false_eq_true, ↓reduceIte, lit, inb_nI, nLt, nLe, nEq, nAdd, nI_t, nMul, nSub, g1, g2, g3, g4, g7, g8, q3, g5, g6, gI_s, Nat.reduceEqDiff]
    refine Wp.rt ⟨rfl, hT.fr, ⟨m, hC.fr, hO.f6, hH.fr, hK.fr⟩, hN.f6, hR.fr, hF.fr, ⟨q + 1, by omega, rfl, rfl, fun i hi => ?_⟩, hU.fr⟩
    simp only [gI_s, Nat.reduceEqDiff, if_true, if_false]
    by_cases e : i = q
    · simp only [e, if_true]; exact ⟨trivial, trivial, trivial⟩
    · simp only [e, if_false]; exact q4 i (by omega)
  · have g6 : q = 10 := by omega
    subst g6
    simp (disch := omega) only [lt_e, bd_e, fl3, in0, in2, in_0_2, in_0_3, in_0_4, in_0_5, in_0_7, in_0_9, in_0_10, in_0_20, in_0_60, in_0_255, in_1_9, in_1_6, in_1_60, in_2_9, if_true, if_false, not_true, not_false_iff, and_true, true_and, and_false, false_and, and_self, or_true, true_or, or_false, false_or, ite_true, ite_false, not_true_eq_false, not_false_eq_true, ↓reduceIte, lit, inb_nI, nLt, nLe, nEq, nAdd, nI_t, nMul, nSub, g1, g2, g3, g4, g7, g8, k8, n10, q2, gI_s, Nat.reduceEqDiff, Nat.reduceLT]
    refine Wp.rt ?_
    simp (disch := omega) only [lt_e, bd_e, fl3, in0, in2, in_0_2, in_0_3, in_0_4, in_0_5, in_0_7, in_0_9, in_0_10, in_0_20, in_0_60, in_0_255, in_1_9, in_1_6, in_1_60, in_2_9, if_true, if_false, not_true, not_false_iff, and_true, true_and, and_false, false_and, and_self, or_true, true_or, or_false, false_or, ite_true, ite_false, not_true_eq_false, not_false_eq_true, ↓reduceIte, lit, inb_nI, nLt, nLe, nEq, nAdd, nI_t, nMul, nSub, g1, g2, g3, g4, g7, g8, q3, gI_s, Nat.reduceEqDiff]
    exact Wp.rt ⟨rfl, hS.th⟩
theorem eq_row (a1 : Int32) : EQX RelP (fun v : Int64 => v) (fun v : Int64 => v) (f_X10_row a1) (f_X11_row a1) := by
  intro S hS
  obtain ⟨hT, ⟨m, hC, hO, hH, hK⟩, hN, ⟨q, q1, q2, q3, q4⟩, hF, hE, hU⟩ := id hS
  have hx : ∀ v w : Int32, RelP (sI (sI S 122 0 v) 122 0 w) := fun v w => hS.th.th
  unfold f_X10_row f_X11_row f_X5_at f_X10_row_15 f_X11_thrown
  have k1 : (gI S 122 1 - nI 1 < a1) = ¬ (a1 < gI S 10 1) := by
    rw [q2, q3, i_lt, i_lt, nI_int (by omega)]
    by_cases h0 : q = 0
    · subst h0
      rw [show (nI 0 - nI 1).toInt = -1 from by decide]; apply propext; omega
    · rw [nSub (by omega), nI_int (by omega)]; apply propext; omega
  by_cases g1 : a1 < nI 0
  · simp only [lit, lt_e, bd_e, fl3, in0, in2, in_0_2, in_0_3, in_0_4, in_0_5, in_0_7, in_0_9, in_0_10, in_0_20, in_0_60, in_0_255, in_1_9, in_1_6, in_1_60, in_2_9, if_true, if_false, not_true, not_false_iff, and_true, true_and, and_false, false_and, and_self, or_true, true_or, or_false, false_or, ite_true, ite_false, not_true_eq_false, not_false_eq_true, ↓reduceIte, g1]
    exact ⟨none, S, (0 : Int64), _, _, rfl, rfl, rfl, fun h => (by cases h), hx _ _⟩
  by_cases g2 : a1 < gI S 10 1
  · obtain ⟨n, hn, rfl⟩ := as_lt g1 (q2 ▸ g2)
    have g3 : ¬ gI S 10 1 ≤ nI n := by rw [q2, nLe (by omega) (by omega)]; omega
    refine ⟨some (gL S 11 n), S, gL S 123 n, sI (sL S 158 0 (gL S 11 n)) 122 0 (nI 0), sI (sL S 158 0 (gL S 11 n)) 122 0 (nI 0), ?_, ?_, rfl, fun _ => ?_, ?_⟩
    · simp (disch := omega) only [lt_e, bd_e, fl3, in0, in2, in_0_2, in_0_3, in_0_4, in_0_5, in_0_7, in_0_9, in_0_10, in_0_20, in_0_60, in_0_255, in_1_9, in_1_6, in_1_60, in_2_9, if_true, if_false, not_true, not_false_iff, and_true, true_and, and_false, false_and, and_self, or_true, true_or, or_false, false_or, ite_true, ite_false, not_true_eq_false, not_false_eq_true, ↓reduceIte, g1, g2, g3, inb_nI, nI_t, lit]
      rw [if_pos (by omega)]; rfl
    · have k2 : gI S 122 1 - nI 1 < nI n ↔ False := by rw [k1]; simp [g2]
      show lt (sI (sL S 158 0 (gL S 11 n)) 122 0 0) _ = _
      simp (disch := omega) only [lt_e, bd_e, fl3, in0, in2, in_0_2, in_0_3, in_0_4, in_0_5, in_0_7, in_0_9, in_0_10, in_0_20, in_0_60, in_0_255, in_1_9, in_1_6, in_1_60, in_2_9, if_true, if_false, not_true, not_false_iff, and_true, true_and, and_false, false_and, and_self, or_true, true_or, or_false, false_or, ite_true, ite_false, not_true_eq_false, not_false_eq_true, ↓reduceIte, g1, inb_nI, nI_t, lit, gI_s, Nat.reduceEqDiff, gI_l, k2]
      rw [if_pos (by omega)]; rfl
    · exact q4 n hn
    · exact hS.sim (((Sim.rf S).sL (by decide) (by decide)).sI (by decide +kernel))
  · simp only [lit, lt_e, bd_e, fl3, in0, in2, in_0_2, in_0_3, in_0_4, in_0_5, in_0_7, in_0_9, in_0_10, in_0_20, in_0_60, in_0_255, in_1_9, in_1_6, in_1_60, in_2_9, if_true, if_false, not_true, not_false_iff, and_true, true_and, and_false, false_and, and_self, or_true, true_or, or_false, false_or, ite_true, ite_false, not_true_eq_false, not_false_eq_true, ↓reduceIte, g1, g2]
    refine ⟨none, S, (0 : Int64), sI (sI S 122 0 (nI 0)) 122 0 (nI 1), _, rfl, ?_, rfl, fun h => (by cases h), hx _ _⟩
    simp only [xS, lt_e, bd_e, fl3, in0, in2, in_0_2, in_0_3, in_0_4, in_0_5, in_0_7, in_0_9, in_0_10, in_0_20, in_0_60, in_0_255, in_1_9, in_1_6, in_1_60, in_2_9, if_true, if_false, not_true, not_false_iff, and_true, true_and, and_false, false_and, and_self, or_true, true_or, or_false, false_or, ite_true, ite_false, not_true_eq_false, not_false_eq_true, ↓reduceIte, gI_s, Nat.reduceEqDiff, k1, g2]
theorem eq_passage (a1 a2 : Int32) : EQX RelP (fun v : Int32 => v.toInt64) (fun v : Int32 => v.toInt64) (f_X10_passage a1 a2) (f_X11_passage a1 a2) := by
  intro S hS
  obtain ⟨hT, ⟨m, hC, hO, hH, hK⟩, hN, hR, hF, hE, hU⟩ := id hS
  obtain ⟨c1, c2, c3, c4⟩ := id hC
  obtain ⟨s1, s2, s3, s4⟩ := id hN
  have hx : ∀ v w : Int32, RelP (sI (sI S 122 0 v) 122 0 w) := fun v w => hS.th.th
  have hy : ∀ v : Int64, RelP (sI (sL S 158 0 v) 122 0 (nI 0)) := fun v => hS.sim (((Sim.rf S).sL (by decide) (by decide)).sI (by decide +kernel))
  have k1 : (gI S 122 3 - nI 1 < a1) = ¬ (a1 < gI S 3 2) := by
    rw [c2, c3, i_lt, i_lt, nI_int (by omega)]
    by_cases h0 : m = 0
    · subst h0
      rw [show (nI 0 - nI 1).toInt = -1 from by decide]; apply propext; omega
    · rw [nSub (by omega), nI_int (by omega)]; apply propext; omega
  by_cases g1 : a1 < nI 0
  · refine EQX_n S (sI (sI S 122 0 (nI 0)) 122 0 (nI 1)) ?_ ?_ rfl (hx _ _) (w := nI 0)
    · unfold f_X10_passage f_X0_has; simp only [lit, lt_e, bd_e, fl3, in0, in2, in_0_2, in_0_3, in_0_4, in_0_5, in_0_7, in_0_9, in_0_10, in_0_20, in_0_60, in_0_255, in_1_9, in_1_6, in_1_60, in_2_9, if_true, if_false, not_true, not_false_iff, and_true, true_and, and_false, false_and, and_self, or_true, true_or, or_false, false_or, ite_true, ite_false, not_true_eq_false, not_false_eq_true, ↓reduceIte, g1]
    · unfold f_X11_passage f_X11_isPassage f_X11_passage_25 f_X11_refuse; simp only [lit, lt_e, bd_e, fl3, in0, in2, in_0_2, in_0_3, in_0_4, in_0_5, in_0_7, in_0_9, in_0_10, in_0_20, in_0_60, in_0_255, in_1_9, in_1_6, in_1_60, in_2_9, if_true, if_false, not_true, not_false_iff, and_true, true_and, and_false, false_and, and_self, or_true, true_or, or_false, false_or, ite_true, ite_false, not_true_eq_false, not_false_eq_true, ↓reduceIte, g1, fl2, n10]
  by_cases g2 : a1 < gI S 3 2
  · obtain ⟨n, hn, rfl⟩ := as_lt g1 (c2 ▸ g2)
    have g3 : ¬ gI S 3 2 ≤ nI n := by rw [c2, nLe (by omega) (by omega)]; omega
    have k2 : (gI S 122 3 - nI 1 < nI n) = False := by rw [k1]; simp [g2]
    have n12 : n < 12 := by omega
    have n39 : n < 39 := by omega
    have n40 : 12 + n < 39 := by omega
    have n41 : 24 + n < 39 := by omega
    obtain ⟨d1, d2, d3⟩ := s1 n n12
    obtain ⟨d4, d5, _⟩ := c4 n hn
    by_cases w0 : a2 = nI 0
    · subst w0
      refine EQX_v S (sI (sL S 158 0 _) 122 0 (nI 0)) ?_ ?_ d4 rfl rfl (hy _)
      · unfold f_X10_passage f_X0_has; simp (disch := omega) only [lt_e, bd_e, fl3, in0, in2, in_0_2, in_0_3, in_0_4, in_0_5, in_0_7, in_0_9, in_0_10, in_0_20, in_0_60, in_0_255, in_1_9, in_1_6, in_1_60, in_2_9, if_true, if_false, not_true, not_false_iff, and_true, true_and, and_false, false_and, and_self, or_true, true_or, or_false, false_or, ite_true, ite_false, not_true_eq_false, not_false_eq_true, ↓reduceIte, lit, inb_nI, nLt, nLe, nEq, nAdd, nI_t, nMul, nSub, g1, g3, n12, n10, Nat.reduceEqDiff]
      · unfold f_X11_passage f_X11_isPassage f_X11_passage_25 f_X11_refuse; simp (disch := omega) only [lt_e, bd_e, fl3, in0, in2, in_0_2, in_0_3, in_0_4, in_0_5, in_0_7, in_0_9, in_0_10, in_0_20, in_0_60, in_0_255, in_1_9, in_1_6, in_1_60, in_2_9, if_true, if_false, not_true, not_false_iff, and_true, true_and, and_false, false_and, and_self, or_true, true_or, or_false, false_or, ite_true, ite_false, not_true_eq_false, not_false_eq_true, ↓reduceIte, lit, inb_nI, nLt, nLe, nEq, nAdd, nI_t, nMul, nSub, g1, k2, gI_s, gI_l, fl2, Nat.reduceEqDiff, Nat.reduceLT, Nat.not_lt_zero, n12, n39, n40, n41, Nat.zero_add]
        rfl
    by_cases w1 : a2 = nI 1
    · subst w1
      refine EQX_v S (sI (sL S 158 0 _) 122 0 (nI 0)) ?_ ?_ d5 rfl rfl (hy _)
      · unfold f_X10_passage f_X0_has; simp (disch := omega) only [lt_e, bd_e, fl3, in0, in2, in_0_2, in_0_3, in_0_4, in_0_5, in_0_7, in_0_9, in_0_10, in_0_20, in_0_60, in_0_255, in_1_9, in_1_6, in_1_60, in_2_9, if_true, if_false, not_true, not_false_iff, and_true, true_and, and_false, false_and, and_self, or_true, true_or, or_false, false_or, ite_true, ite_false, not_true_eq_false, not_false_eq_true, ↓reduceIte, lit, inb_nI, nLt, nLe, nEq, nAdd, nI_t, nMul, nSub, g1, g3, n12, n10, Nat.reduceEqDiff]
      · unfold f_X11_passage f_X11_isPassage f_X11_passage_25 f_X11_refuse; simp (disch := omega) only [lt_e, bd_e, fl3, in0, in2, in_0_2, in_0_3, in_0_4, in_0_5, in_0_7, in_0_9, in_0_10, in_0_20, in_0_60, in_0_255, in_1_9, in_1_6, in_1_60, in_2_9, if_true, if_false, not_true, not_false_iff, and_true, true_and, and_false, false_and, and_self, or_true, true_or, or_false, false_or, ite_true, ite_false, not_true_eq_false, not_false_eq_true, ↓reduceIte, lit, inb_nI, nLt, nLe, nEq, nAdd, nI_t, nMul, nSub, g1, k2, gI_s, gI_l, fl2, Nat.reduceEqDiff, Nat.reduceLT, Nat.not_lt_zero, n12, n39, n40, n41, Nat.zero_add]
        rfl
    by_cases w2 : a2 = nI 2
    · subst w2
      refine EQX_v S (sI (sL S 158 0 _) 122 0 (nI 0)) ?_ ?_ d1 rfl rfl (hy _)
      · unfold f_X10_passage f_X0_has; simp (disch := omega) only [lt_e, bd_e, fl3, in0, in2, in_0_2, in_0_3, in_0_4, in_0_5, in_0_7, in_0_9, in_0_10, in_0_20, in_0_60, in_0_255, in_1_9, in_1_6, in_1_60, in_2_9, if_true, if_false, not_true, not_false_iff, and_true, true_and, and_false, false_and, and_self, or_true, true_or, or_false, false_or, ite_true, ite_false, not_true_eq_false, not_false_eq_true, ↓reduceIte, lit, inb_nI, nLt, nLe, nEq, nAdd, nI_t, nMul, nSub, g1, g3, n12, n10, Nat.reduceEqDiff]
      · unfold f_X11_passage f_X11_isPassage f_X11_passage_25 f_X11_refuse; simp (disch := omega) only [lt_e, bd_e, fl3, in0, in2, in_0_2, in_0_3, in_0_4, in_0_5, in_0_7, in_0_9, in_0_10, in_0_20, in_0_60, in_0_255, in_1_9, in_1_6, in_1_60, in_2_9, if_true, if_false, not_true, not_false_iff, and_true, true_and, and_false, false_and, and_self, or_true, true_or, or_false, false_or, ite_true, ite_false, not_true_eq_false, not_false_eq_true, ↓reduceIte, lit, inb_nI, nLt, nLe, nEq, nAdd, nI_t, nMul, nSub, g1, k2, gI_s, gI_l, fl2, Nat.reduceEqDiff, Nat.reduceLT, Nat.not_lt_zero, n12, n39, n40, n41, Nat.zero_add]
        rfl
    by_cases w3 : a2 = nI 3
    · subst w3
      refine EQX_v S (sI (sL S 158 0 _) 122 0 (nI 0)) ?_ ?_ d2 rfl rfl (hy _)
      · unfold f_X10_passage f_X0_has; simp (disch := omega) only [lt_e, bd_e, fl3, in0, in2, in_0_2, in_0_3, in_0_4, in_0_5, in_0_7, in_0_9, in_0_10, in_0_20, in_0_60, in_0_255, in_1_9, in_1_6, in_1_60, in_2_9, if_true, if_false, not_true, not_false_iff, and_true, true_and, and_false, false_and, and_self, or_true, true_or, or_false, false_or, ite_true, ite_false, not_true_eq_false, not_false_eq_true, ↓reduceIte, lit, inb_nI, nLt, nLe, nEq, nAdd, nI_t, nMul, nSub, g1, g3, n12, n10, Nat.reduceEqDiff]
      · unfold f_X11_passage f_X11_isPassage f_X11_passage_25 f_X11_refuse; simp (disch := omega) only [lt_e, bd_e, fl3, in0, in2, in_0_2, in_0_3, in_0_4, in_0_5, in_0_7, in_0_9, in_0_10, in_0_20, in_0_60, in_0_255, in_1_9, in_1_6, in_1_60, in_2_9, if_true, if_false, not_true, not_false_iff, and_true, true_and, and_false, false_and, and_self, or_true, true_or, or_false, false_or, ite_true, ite_false, not_true_eq_false, not_false_eq_true, ↓reduceIte, lit, inb_nI, nLt, nLe, nEq, nAdd, nI_t, nMul, nSub, g1, k2, gI_s, gI_l, fl2, Nat.reduceEqDiff, Nat.reduceLT, Nat.not_lt_zero, n12, n39, n40, n41, Nat.zero_add]
        rfl
    by_cases w4 : a2 = nI 4
    · subst w4
      refine EQX_v S (sI (sL S 158 0 _) 122 0 (nI 0)) ?_ ?_ d3 rfl rfl (hy _)
      · unfold f_X10_passage f_X0_has; simp (disch := omega) only [lt_e, bd_e, fl3, in0, in2, in_0_2, in_0_3, in_0_4, in_0_5, in_0_7, in_0_9, in_0_10, in_0_20, in_0_60, in_0_255, in_1_9, in_1_6, in_1_60, in_2_9, if_true, if_false, not_true, not_false_iff, and_true, true_and, and_false, false_and, and_self, or_true, true_or, or_false, false_or, ite_true, ite_false, not_true_eq_false, not_false_eq_true, ↓reduceIte, lit, inb_nI, nLt, nLe, nEq, nAdd, nI_t, nMul, nSub, g1, g3, n12, n10, Nat.reduceEqDiff]
      · unfold f_X11_passage f_X11_isPassage f_X11_passage_25 f_X11_refuse; simp (disch := omega) only [lt_e, bd_e, fl3, in0, in2, in_0_2, in_0_3, in_0_4, in_0_5, in_0_7, in_0_9, in_0_10, in_0_20, in_0_60, in_0_255, in_1_9, in_1_6, in_1_60, in_2_9, if_true, if_false, not_true, not_false_iff, and_true, true_and, and_false, false_and, and_self, or_true, true_or, or_false, false_or, ite_true, ite_false, not_true_eq_false, not_false_eq_true, ↓reduceIte, lit, inb_nI, nLt, nLe, nEq, nAdd, nI_t, nMul, nSub, g1, k2, gI_s, gI_l, fl2, Nat.reduceEqDiff, Nat.reduceLT, Nat.not_lt_zero, n12, n39, n40, n41, Nat.zero_add]
        rfl
    by_cases w5 : a2 = nI 5
    · subst w5
      refine EQX_v (v := if gI S 6 3 >>> (nI n &&& nI 31) &&& nI 1 = nI 1 then nI 1 else nI 0) S (sI (sL S 158 0 _) 122 0 (nI 0)) ?_ ?_ rfl rfl rfl (hy _)
      · unfold f_X10_passage f_X0_has; simp (disch := omega) only [lt_e, bd_e, fl3, in0, in2, in_0_2, in_0_3, in_0_4, in_0_5, in_0_7, in_0_9, in_0_10, in_0_20, in_0_60, in_0_255, in_1_9, in_1_6, in_1_60, in_2_9, if_true, if_false, not_true, not_false_iff, and_true, true_and, and_false, false_and, and_self, or_true, true_or, or_false, false_or, ite_true, ite_false, not_true_eq_false, not_false_eq_true, ↓reduceIte, lit, inb_nI, nLt, nLe, nEq, nAdd, nI_t, nMul, nSub, g1, g3, n12, n10, Nat.reduceEqDiff, f_X0_isOpen]
        by_cases hb : gI S 6 3 >>> (nI n &&& nI 31) &&& nI 1 = nI 1
        · simp only [hb, if_true]; rfl
        · simp only [hb, if_false]; rfl
      · unfold f_X11_passage f_X11_isPassage f_X11_passage_25 f_X11_refuse; simp (disch := omega) only [lt_e, bd_e, fl3, in0, in2, in_0_2, in_0_3, in_0_4, in_0_5, in_0_7, in_0_9, in_0_10, in_0_20, in_0_60, in_0_255, in_1_9, in_1_6, in_1_60, in_2_9, if_true, if_false, not_true, not_false_iff, and_true, true_and, and_false, false_and, and_self, or_true, true_or, or_false, false_or, ite_true, ite_false, not_true_eq_false, not_false_eq_true, ↓reduceIte, lit, inb_nI, nLt, nLe, nEq, nAdd, nI_t, nMul, nSub, g1, k2, gI_s, gI_l, fl2, Nat.reduceEqDiff, Nat.reduceLT, Nat.not_lt_zero, f_X11_has, fl5, flagN, fl4, s2]
        rfl
    · refine EQX_n S (sI (sI S 122 0 (nI 0)) 122 0 (nI 1)) ?_ ?_ rfl (hx _ _) (w := nI 0)
      · unfold f_X10_passage f_X0_has; simp only [lit, lt_e, bd_e, fl3, in0, in2, in_0_2, in_0_3, in_0_4, in_0_5, in_0_7, in_0_9, in_0_10, in_0_20, in_0_60, in_0_255, in_1_9, in_1_6, in_1_60, in_2_9, if_true, if_false, not_true, not_false_iff, and_true, true_and, and_false, false_and, and_self, or_true, true_or, or_false, false_or, ite_true, ite_false, not_true_eq_false, not_false_eq_true, ↓reduceIte, g1, g3, w0, w1, w2, w3, w4, w5, n10]
      · have hw : ¬ (¬ a2 < nI 0 ∧ ¬ nI 5 < a2) := by
          intro h
          obtain ⟨j, hj, rfl⟩ := as_le h.1 h.2
          have : j = 0 ∨ j = 1 ∨ j = 2 ∨ j = 3 ∨ j = 4 ∨ j = 5 := by omega
          rcases this with rfl | rfl | rfl | rfl | rfl | rfl
          · exact w0 rfl
          · exact w1 rfl
          · exact w2 rfl
          · exact w3 rfl
          · exact w4 rfl
          · exact w5 rfl
        unfold f_X11_passage f_X11_isPassage f_X11_passage_25 f_X11_refuse
        simp only [lit, lt_e, bd_e, fl3, in0, in2, in_0_2, in_0_3, in_0_4, in_0_5, in_0_7, in_0_9, in_0_10, in_0_20, in_0_60, in_0_255, in_1_9, in_1_6, in_1_60, in_2_9, if_true, if_false, not_true, not_false_iff, and_true, true_and, and_false, false_and, and_self, or_true, true_or, or_false, false_or, ite_true, ite_false, not_true_eq_false, not_false_eq_true, ↓reduceIte, g1, k2, gI_s, gI_l, fl2, Nat.reduceEqDiff, hw, n10]
  · have g3 : gI S 3 2 ≤ a1 := by rw [i_le]; rw [i_lt] at g2; omega
    refine EQX_n S (sI (sI S 122 0 (nI 0)) 122 0 (nI 1)) ?_ ?_ rfl (hx _ _) (w := nI 0)
    · unfold f_X10_passage f_X0_has; simp only [lit, lt_e, bd_e, fl3, in0, in2, in_0_2, in_0_3, in_0_4, in_0_5, in_0_7, in_0_9, in_0_10, in_0_20, in_0_60, in_0_255, in_1_9, in_1_6, in_1_60, in_2_9, if_true, if_false, not_true, not_false_iff, and_true, true_and, and_false, false_and, and_self, or_true, true_or, or_false, false_or, ite_true, ite_false, not_true_eq_false, not_false_eq_true, ↓reduceIte, g1, g3]
    · unfold f_X11_passage f_X11_isPassage f_X11_passage_25 f_X11_refuse; simp only [lit, lt_e, bd_e, fl3, in0, in2, in_0_2, in_0_3, in_0_4, in_0_5, in_0_7, in_0_9, in_0_10, in_0_20, in_0_60, in_0_255, in_1_9, in_1_6, in_1_60, in_2_9, if_true, if_false, not_true, not_false_iff, and_true, true_and, and_false, false_and, and_self, or_true, true_or, or_false, false_or, ite_true, ite_false, not_true_eq_false, not_false_eq_true, ↓reduceIte, g1, gI_s, Nat.reduceEqDiff, k1, g2, fl2, n10]
