theorem eq_again (a1 : Int32) : EQ1 RelP (f_X10_again a1) (f_X11_again a1) := by
  apply EQ1.of
  intro S hS
  by_cases g : ¬ a1 < nI 0 ∧ ¬ nI 2 < a1
  · obtain ⟨n, hn, rfl⟩ := as_le g.1 g.2
    obtain ⟨m, u, f, hR, hO, hN, hw⟩ := hS.r
    have hm : m ≤ 12 := hR.2.1.1
    have n3 : n < 3 := by omega
    obtain ⟨c, c1, c2, c3⟩ := id hR.2.2.1
    obtain ⟨b1, b2, b3, b4, b5⟩ := c3 n n3
    unfold f_X10_again f_X4_hasStored
    simp (disch := omega) only [lit, inb_nI, nLt, nLe, nEq, nAdd, nI_t, nMul, nSub, Nat.not_lt_zero, if_false, if_true, n3, show ¬ 3 ≤ n by omega]
    unfold f_X11_again
    simp only [lt_e, bd_e, fl3z, fl2z, fl6z, in0, in2, in_0_2, in_0_3, in_0_4, in_0_5, in_0_7, in_0_9, in_0_10, in_0_20, in_0_60, in_0_255, in_1_9, in_1_6, in_1_60, in_2_9, in_48_57, in_97_104]
    rcases b1 with b | b
    · have b' : gI S 91 n = nI 0 := b
      simp only [b', if_true, bd_e]
      refine Wp.rt ?_
      rw [if_pos g]
      simp (disch := omega) only [lit, inb_nI, nLt, nLe, nEq, nAdd, nI_t, nMul, nSub, if_true, n3, gI_s, Nat.reduceEqDiff, if_false]
      refine Wp.it (fun q => Wp.rt ⟨rfl, hS.th⟩) (fun q => Wp.it (fun q2 => ?_) (fun q2 => Wp.rt ⟨rfl, hS.th⟩))
      exfalso
      have q' : gI S 155 n = 1 := by
        rcases b2 with x | x
        · exact absurd x q
        · exact x
      have := b4.mpr ⟨q', q2.trans c2⟩
      rw [b] at this
      exact absurd this (by decide)
    · have b' : gI S 91 n = nI 1 := b
      have b0 : ¬ gI S 91 n = nI 0 := by rw [b']; decide
      obtain ⟨q1, q2⟩ := b4.mp b
      obtain ⟨x1, x2⟩ := b5 b
      simp only [b0, if_false, bd_e, zr78 n3, take_e S 6 (79 + 4 * n) (by omega), lt_e]
      simp (disch := omega) only [nEq, Nat.reduceEqDiff, if_false]
      refine Wp.rt ?_
      generalize hA : sI (tk S 6 (79 + 4 * n)) 12 2 (nI 0) = A
      have a0 : ∀ o k, (o < 6 ∨ 9 < o) → (o ≠ 12 ∨ k ≠ 2) → gI A o k = gI S o k := by
        intro o k ho hk
        rw [← hA, gI_s]
        by_cases e : o = 12
        · rw [if_pos e, if_neg (by omega), tk_off (by omega)]
        · rw [if_neg e, tk_off (by omega)]
      have aL : ∀ o k, gL A o k = gL S o k := fun o k => by rw [← hA]; rfl
      rw [if_pos g]
      have y1 : gI A 155 n = nI 1 := (a0 _ _ (by omega) (by omega)).trans q1
      have y2 : gI A 156 n = nI c := (a0 _ _ (by omega) (by omega)).trans q2
      have y3 : gI A 122 4 = nI c := (a0 _ _ (by omega) (by omega)).trans c2
      simp (disch := omega) only [lit, inb_nI, nLt, nLe, nEq, nAdd, nI_t, nMul, nSub, if_true, n3, gI_s, Nat.reduceEqDiff, if_false, y1, y2, y3]
      generalize hP : sI A 122 0 (nI 0) = P
      have p0 : ∀ o k, (o ≠ 122 ∨ k ≠ 0) → gI P o k = gI A o k := by
        intro o k h
        rw [← hP, gI_s]
        by_cases e : o = 122
        · rw [if_pos e, if_neg (by omega)]
        · rw [if_neg e]
      have hl := row_l (S := P) 126 157 117 (39 * n) (by omega) (by omega) (f_X11_again_43b (nI n) (fun v10 S11 => lt (sI S11 122 28 (nI 0)) (fun S12 => some (nI 1, S12)))) (fun T => some (nI 1, sI T 122 28 (nI 0))) (by
        intro i T k hi hT
        unfold f_X11_again_43b
        have q1 : 39 * n + i < 117 := by omega
        simp (disch := omega) only [lit, inb_nI, nLt, nLe, nEq, nAdd, nI_t, nMul, nSub, lt_e, if_true, if_false, q1, hi, show ¬ 39 ≤ i by omega]) (by
        intro T k hT
        unfold f_X11_again_43b
        simp (disch := omega) only [lit, inb_nI, nLt, nLe, nEq, nAdd, nI_t, nMul, nSub, lt_e, if_true, Nat.le_refl])
      simp only [lt_e] at hl
      rw [hl]
      refine Wp.rt ⟨rfl, ?_⟩
      generalize hE : sI (sR P 126 _) 122 28 (nI 0) = E
      have e0 : ∀ o k, o ≠ 126 → (o ≠ 122 ∨ (k ≠ 0 ∧ k ≠ 28)) → gI E o k = gI A o k := by
        intro o k h1 h2
        rw [← hE, gI_s]
        by_cases e : o = 122
        · rw [if_pos e, if_neg (by omega), gI_r, if_neg h1, p0 _ _ (by omega)]
        · rw [if_neg e, gI_r, if_neg h1, p0 _ _ (by omega)]
      have e126 : ∀ k, k < 39 → gI E 126 k = gI S 157 (39 * n + k) := by
        intro k hk
        rw [← hE, gI_s, if_neg (by omega), gI_r, if_pos rfl, if_pos hk, p0 _ _ (by omega), a0 _ _ (by omega) (by omega)]
      have sE : Same domR S E := by
        rw [← hE, ← hP]
        refine Same.sI (Same.sR (Same.sI ?_ rfl) (fun _ => rfl)) rfl
        refine ⟨fun a b hab => ?_, fun k => ⟨aL _ _, aL _ _⟩⟩
        by_cases q : a < 6 ∨ 9 < a
        · refine a0 a b q ?_
          by_cases q2 : a = 12
          · subst q2; cases hab
          · exact Or.inl q2
        · have : a = 6 ∨ a = 7 ∨ a = 8 ∨ a = 9 := by omega
          rcases this with rfl | rfl | rfl | rfl <;> cases hab
      have hq : ∀ q k, q ≤ 3 → gI E (6 + q) k = gI (tk S 6 (79 + 4 * n)) (6 + q) k := by
        intro q k hq
        rw [e0 _ _ (by omega) (by omega), ← hA, gI_s, if_neg (by omega)]
      refine (hR.sm sE).p (x2.tk hm hq) (x1.tk hq (fun k hk => by rw [Nat.zero_add, e126 k hk])) ?_
      obtain ⟨h1, h2, h3, h4, h5, h6⟩ := hw
      refine ⟨0, f, by omega, h2, ?_, ?_, (e0 _ _ (by omega) (by omega)).trans ((a0 _ _ (by omega) (by omega)).trans h5), fun j hj => absurd hj (by omega)⟩
      · rw [e0 _ _ (by omega) (by omega), ← hA]; rfl
      · rw [← hE]; rfl
  · have : f_X10_again a1 S = some (nI 0, S) := by
      unfold f_X10_again f_X4_hasStored
      simp only [lit]
      by_cases g1 : a1 < nI 0
      · simp only [g1, if_true, bd_e]
      · have g2 : nI 3 ≤ a1 := by
          rw [i_le, nI_int (by omega)]
          have : ¬ ¬ nI 2 < a1 := fun q => g ⟨g1, q⟩
          rw [i_lt, nI_int (by omega)] at this; omega
        simp only [g1, g2, if_false, if_true, bd_e]
    rw [this]
    refine Wp.rt ?_
    unfold f_X11_again
    simp only [lt_e, bd_e, fl3z, fl2z, fl6z, in0, in2, in_0_2, in_0_3, in_0_4, in_0_5, in_0_7, in_0_9, in_0_10, in_0_20, in_0_60, in_0_255, in_1_9, in_1_6, in_1_60, in_2_9, in_48_57, in_97_104, if_neg g]
    exact Wp.rt ⟨rfl, hS.th⟩
/-! signs -/
theorem and255 (x : Int32) : ∃ n, n ≤ 255 ∧ x &&& nI 255 = nI n := by
  refine ⟨x.toBitVec.toNat &&& 255, Nat.and_le_right, ?_⟩
  apply bvE
  rw [Int32.toBitVec_and, nBV, nBV]
  apply BitVec.eq_of_toNat_eq
  rw [BitVec.toNat_and, BitVec.toNat_ofNat, BitVec.toNat_ofNat, Nat.mod_eq_of_lt (show 255 < 2 ^ 32 by omega), Nat.mod_eq_of_lt]
  have := Nat.and_le_right (n := x.toBitVec.toNat) (m := 255)
  omega
theorem nar255 {n : Nat} (h : n ≤ 255) : vp_nar .char (((nI n).toUInt32 % 65536).toInt32) = nI n := by
  have q : ∀ n, n < 256 → vp_nar .char (((nI n).toUInt32 % 65536).toInt32) = nI n := by decide +kernel
  exact q n (by omega)
theorem ushr_sh (x : Int32) {s : Nat} (h : s ≤ 24) : ushr x (nI s) &&& nI 255 = (x >>> (nI s &&& nI 31)) &&& nI 255 := by
  rw [n31 (by omega)]
  apply bvE
  unfold ushr
  rw [Int32.toBitVec_and, Int32.toBitVec_and, Int32.toBitVec_shiftRight]
  have e1 : ((x.toUInt32 >>> ((nI s).toUInt32 &&& Int32.toUInt32 31)).toInt32).toBitVec = x.toBitVec >>> s := by
    show (x.toUInt32 >>> ((nI s).toUInt32 &&& Int32.toUInt32 31)).toBitVec = _
    rw [UInt32.toBitVec_shiftRight]
    have q : ∀ s, s ≤ 24 → (((nI s).toUInt32 &&& Int32.toUInt32 31).toBitVec % 32) = BitVec.ofNat 32 s := by decide +kernel
    trace_state
    sorry
  have e2 : x.toBitVec.sshiftRight' ((nI s).toBitVec.smod 32) = x.toBitVec.sshiftRight s := by
    have q : ∀ s, s ≤ 24 → ((nI s).toBitVec.smod 32) = BitVec.ofNat 32 s := by decide +kernel
    rw [q s h, BitVec.sshiftRight'_ofNat_eq_sshiftRight]
    trace_state
    sorry
  rw [e1, e2]
  apply BitVec.eq_of_getLsbD_eq
  intro i hi
  simp only [BitVec.getLsbD_and, BitVec.getLsbD_ushiftRight, BitVec.getLsbD_sshiftRight]
  trace_state
  sorry
