/-! acts -/
theorem bC_n (x : Int32) : ∃ n, n ≤ 63 ∧ bC x = nI n := and63 _
theorem not_neg {n : Nat} (h : n < 2147483648) : ¬ nI n < (0 : Int32) := by
  rw [show (0 : Int32) = nI 0 from rfl, nLt h (by omega)]; omega
theorem eq_falls (a1 : Int32) : EQ1 RelP (f_X10_falls a1) (f_X11_falls a1) := by
  refine act_eq (A := f_X10_turnPassage a1) (B := f_X11_fallsOne 126 a1) rfl rfl ?_
  intro S m hm hC hO
  unfold f_X10_turnPassage f_X11_fallsOne
  simp only [has_e hC hm, lt_e, bd_e, fl3z, fl2z, fl6z, in0, in2, in_0_2, in_0_3, in_0_4, in_0_5, in_0_7, in_0_9, in_0_10, in_0_20, in_0_60, in_0_255, in_1_9, in_1_6, in_1_60, in_2_9, in_48_57, in_97_104, bc_e]
  simp only [lit]
  refine Wp.it (fun g => Wp.rt ?_) (fun g => Wp.rt ?_)
  · obtain ⟨n, hn, rfl⟩ := as_lt g.1 g.2
    obtain ⟨p, hp, ep⟩ := bC_n (gI (sI S 6 3 (gI S 6 3 ^^^ nI 1 <<< (nI n &&& nI 31))) 6 3)
    rw [ep]
    refine ⟨fun o k h => ?_, fun o k => rfl, fun h => absurd h (not_neg (by omega)), ?_⟩
    · rw [gI_s, if_neg (by omega)]
    intro S2 c2 hN hk
    simp only [isP_e c2 hm, lt_e, bd_e, fl3z, fl2z, fl6z, in0, in2, in_0_2, in_0_3, in_0_4, in_0_5, in_0_7, in_0_9, in_0_10, in_0_20, in_0_60, in_0_255, in_1_9, in_1_6, in_1_60, in_2_9, in_48_57, in_97_104, bc_e]
    simp only [lit, if_pos g]
    have e36 : gI S2 126 36 = gI S 6 3 := (hk 36).trans hN.2.1.symm
    refine Wp.rt ⟨?_, fun o k h => ?_, fun o k => rfl, fun h => absurd h (not_neg (by omega)), fun _ E e1 e2 => ?_⟩
    · rw [← ep, e36]; rfl
    · rw [gI_s, if_neg h]
    · obtain ⟨a1, ⟨j, _, hj, ej⟩, a3⟩ := hO
      obtain ⟨n1, n2, n3, n4⟩ := hN
      have x0 : gI S 6 3 ^^^ nI 1 <<< (nI n &&& nI 31) = nI (j ^^^ 2 ^ n) := by rw [ej, nShl (by omega), nXor]
      have p2 : 0 < 2 ^ m := Nat.two_pow_pos m
      have jl := xor_lt (j := j) (n := n) (m := m) (by omega) hn
      have q : ∀ o k, 6 ≤ o → o ≤ 9 → gI E o k = if o = 6 then (if k = 3 then nI (j ^^^ 2 ^ n) else gI S o k) else gI S o k := by
        intro o k h1 h2
        rw [e1 o k h1 h2, gI_s, x0]
      have r : ∀ k, gI E 126 k = if k = 36 then nI (j ^^^ 2 ^ n) else gI S 126 k := by
        intro k
        rw [e2 k, gI_s, if_pos rfl, e36, x0, hk]
      refine ⟨⟨fun i hi => ?_, ?_, ?_, ?_⟩, fun i hi => ?_, ?_, ?_⟩
      · simp (disch := omega) only [q, r, if_neg]; exact n1 i hi
      · simp (disch := omega) only [q, r, if_neg, if_pos, if_true]
      · simp (disch := omega) only [q, r, if_neg, if_pos]; exact n3
      · simp (disch := omega) only [q, r, if_neg, if_pos]; exact n4
      · simp (disch := omega) only [q, if_neg]; exact a1 i hi
      · simp (disch := omega) only [q, if_pos]; exact ⟨_, by omega, by omega, rfl⟩
      · simp (disch := omega) only [q, if_neg, if_pos]; exact a3
  · refine ⟨fun o k h => rfl, fun o k => rfl, fun _ o k => rfl, ?_⟩
    intro S2 c2 hN hk
    simp only [isP_e c2 hm, lt_e, bd_e, fl3z, fl2z, fl6z, in0, in2, in_0_2, in_0_3, in_0_4, in_0_5, in_0_7, in_0_9, in_0_10, in_0_20, in_0_60, in_0_255, in_1_9, in_1_6, in_1_60, in_2_9, in_48_57, in_97_104, bc_e]
    simp only [lit, if_neg g]
    exact Wp.rt ⟨rfl, fun o k h => rfl, fun o k => rfl, fun _ k => rfl, fun h => absurd h (by decide)⟩
theorem eq_digs (a1 a2 a3 : Int32) : EQ1 RelP (f_X10_digs a1 a2 a3) (f_X11_digs a1 a2 a3) := by
  refine act_eq (A := f_X10_digPassage a1 a2 a3) (B := f_X11_digsOne a1 a2 a3) rfl rfl ?_
  intro S m hm hC hO
  have bad : (¬ (¬ a1 < nI 0 ∧ a1 < nI m) ∨ a2 < nI 1 ∨ nI 9 < a2 ∨ a3 < nI 0 ∨ nI 9 < a3) → f_X10_digPassage a1 a2 a3 S = some (-nI 1, S) := by
    intro h
    unfold f_X10_digPassage
    simp only [has_e hC hm, lt_e, bd_e, fl3z, fl2z, fl6z, in0, in2, in_0_2, in_0_3, in_0_4, in_0_5, in_0_7, in_0_9, in_0_10, in_0_20, in_0_60, in_0_255, in_1_9, in_1_6, in_1_60, in_2_9, in_48_57, in_97_104]
    simp only [lit]
    by_cases g : ¬ a1 < nI 0 ∧ a1 < nI m
    · rw [if_pos g]
      by_cases g2 : a2 < nI 1
      · simp only [g2, if_true]
      by_cases g3 : nI 9 < a2
      · simp only [g2, g3, if_true, if_false]
      by_cases g4 : a3 < nI 0
      · simp only [g2, g3, g4, if_true, if_false]
      have g5 : nI 9 < a3 := by
        rcases h with h | h | h | h | h
        · exact absurd g h
        · exact absurd h g2
        · exact absurd h g3
        · exact absurd h g4
        · exact h
      have g6 : ¬ a3 ≤ nI 9 := by rw [i_le]; rw [i_lt] at g5; omega
      simp only [g2, g3, g4, g6, if_true, if_false]
    · rw [if_neg g]
  by_cases hb : ¬ (¬ a1 < nI 0 ∧ a1 < nI m) ∨ a2 < nI 1 ∨ nI 9 < a2 ∨ a3 < nI 0 ∨ nI 9 < a3
  · rw [bad hb]
    refine Wp.rt ⟨fun o k h => rfl, fun o k => rfl, fun _ o k => rfl, ?_⟩
    intro S2 c2 hN hk
    have : f_X11_digsOne a1 a2 a3 S2 = some (-nI 1, S2) := by
      unfold f_X11_digsOne
      simp only [isP_e c2 hm, lt_e, bd_e, fl3z, fl2z, fl6z, in0, in2, in_0_2, in_0_3, in_0_4, in_0_5, in_0_7, in_0_9, in_0_10, in_0_20, in_0_60, in_0_255, in_1_9, in_1_6, in_1_60, in_2_9, in_48_57, in_97_104]
      simp only [lit]
      by_cases g : ¬ a1 < nI 0 ∧ a1 < nI m
      · rw [if_pos g]
        by_cases g2 : ¬ a2 < nI 1 ∧ ¬ nI 9 < a2
        · rw [if_pos g2, if_neg]
          intro g3
          rcases hb with h | h | h | h | h
          · exact h g
          · exact g2.1 h
          · exact g2.2 h
          · exact g3.1 h
          · exact g3.2 h
        · rw [if_neg g2]
      · rw [if_neg g]
    rw [this]
    exact Wp.rt ⟨rfl, fun o k h => rfl, fun o k => rfl, fun _ k => rfl, fun h => absurd h (by decide)⟩
  · have g1 : ¬ a1 < nI 0 ∧ a1 < nI m := Classical.not_not.mp (fun h => hb (Or.inl h))
    have g2 : ¬ a2 < nI 1 := fun h => hb (Or.inr (Or.inl h))
    have g3 : ¬ nI 9 < a2 := fun h => hb (Or.inr (Or.inr (Or.inl h)))
    have g4 : ¬ a3 < nI 0 := fun h => hb (Or.inr (Or.inr (Or.inr (Or.inl h))))
    have g5 : ¬ nI 9 < a3 := fun h => hb (Or.inr (Or.inr (Or.inr (Or.inr h))))
    have g2' : ¬ a2 < nI 0 := by
      rw [i_lt, nI_int (by omega)] at g2 ⊢; omega
    obtain ⟨n, hn, rfl⟩ := as_lt g1.1 g1.2
    obtain ⟨d, hd, rfl⟩ := as_le g2' g3
    obtain ⟨b, hb', rfl⟩ := as_le g4 g5
    have d1 : 1 ≤ d := by rw [nLt (by omega) (by omega)] at g2; omega
    obtain ⟨a1, a2, a3⟩ := id hO
    obtain ⟨⟨x, hx1, hx2, ex⟩, ⟨y, hy1, hy2, ey⟩, _⟩ := a1 n hn
    have n12 : n < 12 := by omega
    have b9 : b ≤ 9 := by omega
    have d9 : ¬ 9 < d := by omega
    have d0 : ¬ d < 1 := by omega
    have b99 : ¬ 9 < b := by omega
    have n39 : n < 39 := by omega
    have n40 : 12 + n < 39 := by omega
    have cls : f_X10_digPassage (nI n) (nI d) (nI b) S = if x = d ∧ y = b then some (-nI 2, S) else some (nI (100 + 10 * x + y), sI (sI S 7 n (nI d)) 8 n (nI b)) := by
      unfold f_X10_digPassage f_X10_digPassage_77
      simp only [has_e hC hm, lt_e, bd_e, fl3z, fl2z, fl6z, in0, in2, in_0_2, in_0_3, in_0_4, in_0_5, in_0_7, in_0_9, in_0_10, in_0_20, in_0_60, in_0_255, in_1_9, in_1_6, in_1_60, in_2_9, in_48_57, in_97_104]
      have ex' : gI S 7 n = nI x := ex
      have ey' : gI S 8 n = nI y := ey
      simp (disch := omega) only [lit, inb_nI, nLt, nLe, nEq, nAdd, nI_t, nMul, nSub, fl3, lt_e, ex', ey', n12, hn, d0, d9, b9, Nat.not_lt_zero, not_false_iff, if_true, if_false, and_self]
      by_cases h1 : x = d
      · by_cases h2 : y = b
        · simp only [h1, h2, if_true, and_self]
        · simp only [h1, h2, if_true, and_false, if_false]
      · simp only [h1, if_false, false_and]
    have mod : ∀ S2, gI S2 122 3 = nI m → SEq S 6 126 0 → (∀ k, gI S2 126 k = gI S 126 k) → f_X11_digsOne (nI n) (nI d) (nI b) S2 = if x = d ∧ y = b then some (-nI 2, S2) else some (nI (100 + 10 * x + y), sI (sI S2 126 n (nI d)) 126 (12 + n) (nI b)) := by
      intro S2 c2 hN hk
      unfold f_X11_digsOne f_X11_digsOne_60
      simp only [isP_e c2 hm, lt_e, bd_e, fl3z, fl2z, fl6z, in0, in2, in_0_2, in_0_3, in_0_4, in_0_5, in_0_7, in_0_9, in_0_10, in_0_20, in_0_60, in_0_255, in_1_9, in_1_6, in_1_60, in_2_9, in_48_57, in_97_104]
      have ex' : gI S2 126 n = nI x := by rw [hk, ← ex, (hN.1 n n12).1, Nat.zero_add]
      have ey' : gI S2 126 (12 + n) = nI y := by rw [hk, ← ey, (hN.1 n n12).2.1, Nat.zero_add]
      simp (disch := omega) only [lit, inb_nI, nLt, nLe, nEq, nAdd, nI_t, nMul, nSub, fl3, lt_e, bd_e, in_1_9, in_0_9, ex', ey', n39, n40, hn, d0, d9, b99, Nat.not_lt_zero, not_false_iff, if_true, if_false, and_self]
      by_cases h1 : x = d
      · by_cases h2 : y = b
        · simp only [h1, h2, if_true, and_self]
        · simp only [h1, h2, if_true, and_false, if_false]
      · simp only [h1, if_false, false_and]
    rw [cls]
    by_cases hxy : x = d ∧ y = b
    · rw [if_pos hxy]
      refine Wp.rt ⟨fun o k h => rfl, fun o k => rfl, fun _ o k => rfl, ?_⟩
      intro S2 c2 hN hk
      rw [mod S2 c2 hN hk, if_pos hxy]
      exact Wp.rt ⟨rfl, fun o k h => rfl, fun o k => rfl, fun _ k => rfl, fun h => absurd h (by decide)⟩
    · rw [if_neg hxy]
      refine Wp.rt ⟨fun o k h => ?_, fun o k => rfl, fun h => absurd h (not_neg (by omega)), ?_⟩
      · rw [gI_s, if_neg (by omega), gI_s, if_neg (by omega)]
      intro S2 c2 hN hk
      rw [mod S2 c2 hN hk, if_neg hxy]
      refine Wp.rt ⟨rfl, fun o k h => ?_, fun o k => rfl, fun h => absurd h (not_neg (by omega)), fun _ E e1 e2 => ?_⟩
      · rw [gI_s, if_neg h, gI_s, if_neg h]
      obtain ⟨n1, n2, n3, n4⟩ := hN
      have r : ∀ k, gI E 126 k = if k = 12 + n then nI b else if k = n then nI d else gI S 126 k := by
        intro k
        rw [e2 k, gI_s, if_pos rfl, gI_s, if_pos rfl, hk]
      have q : ∀ k, gI E 6 k = gI S 6 k := fun k => by rw [e1 6 k (by omega) (by omega)]; rfl
      have q9 : ∀ k, gI E 9 k = gI S 9 k := fun k => by rw [e1 9 k (by omega) (by omega)]; rfl
      have q7 : ∀ k, gI E 7 k = if k = n then nI d else gI S 7 k := fun k => by rw [e1 7 k (by omega) (by omega)]; rfl
      have q8 : ∀ k, gI E 8 k = if k = n then nI b else gI S 8 k := fun k => by rw [e1 8 k (by omega) (by omega)]; rfl
      refine ⟨⟨fun i hi => ?_, ?_, ?_, ?_⟩, fun i hi => ?_, ?_, ?_⟩
      · show gI E 7 i = _ ∧ gI E 8 i = _ ∧ gI E 9 i = _
        obtain ⟨z1, z2, z3⟩ := n1 i hi
        rw [q7, q8, q9, r, r, r]
        refine ⟨?_, ?_, ?_⟩
        · by_cases e : i = n
          · simp (disch := omega) only [if_neg, if_pos]
          · simp (disch := omega) only [if_neg]; exact z1
        · by_cases e : i = n
          · simp (disch := omega) only [if_neg, if_pos]
          · simp (disch := omega) only [if_neg]; exact z2
        · simp (disch := omega) only [if_neg]; exact z3
      · rw [q, r]; simp (disch := omega) only [if_neg]; exact n2
      · rw [q, r]; simp (disch := omega) only [if_neg]; exact n3
      · rw [q, r]; simp (disch := omega) only [if_neg]; exact n4
      · show inR (gI E 7 i) 1 9 ∧ inR (gI E 8 i) 0 9 ∧ inR (gI E 9 i) 0 9
        rw [q7, q8, q9]
        obtain ⟨z1, z2, z3⟩ := a1 i hi
        refine ⟨?_, ?_, z3⟩
        · by_cases e : i = n
          · rw [if_pos e]; exact ⟨d, by omega, by omega, rfl⟩
          · rw [if_neg e]; exact z1
        · by_cases e : i = n
          · rw [if_pos e]; exact ⟨b, by omega, by omega, rfl⟩
          · rw [if_neg e]; exact z2
      · rw [q]; exact a2
      · rw [q]; exact a3
