theorem eq_again (a1 : Int32) : EQ1 RelP (f_X10_again a1) (f_X11_again a1) := by
  apply EQ1.of
  intro S hS
  by_cases g : ¬ a1 < nI 0 ∧ ¬ nI 2 < a1
  · obtain ⟨n, hn, rfl⟩ := as_le g.1 g.2
    obtain ⟨m, u, f, hR, hO, hN, hw⟩ := hS.r
    have hm : m ≤ 12 := hR.2.1.1
    have n3 : n < 3 := by omega
    obtain ⟨c, c1, c2, c3⟩ := id hR.2.2.1
    obtain ⟨b1, b2, b3, b4, b5⟩ := c3 n n3
    unfold f_X10_again f_X4_hasStored
    simp (disch := omega) only [lit, inb_nI, nLt, nLe, nEq, nAdd, nI_t, nMul, nSub, Nat.not_lt_zero, if_false, if_true, n3, show ¬ 3 ≤ n by omega]
    unfold f_X11_again
    simp only [lt_e, bd_e, fl3z, fl2z, fl6z, in0, in2, in_0_2, in_0_3, in_0_4, in_0_5, in_0_7, in_0_9, in_0_10, in_0_20, in_0_60, in_0_255, in_1_9, in_1_6, in_1_60, in_2_9, in_48_57, in_97_104]
    rcases b1 with b | b
    · have b' : gI S 91 n = nI 0 := b
      simp only [b', if_true, bd_e]
      refine Wp.rt ?_
      rw [if_pos g]
      simp (disch := omega) only [lit, inb_nI, nLt, nLe, nEq, nAdd, nI_t, nMul, nSub, if_true, n3, gI_s, Nat.reduceEqDiff, if_false]
      refine Wp.it (fun q => Wp.rt ⟨rfl, hS.th⟩) (fun q => Wp.it (fun q2 => ?_) (fun q2 => Wp.rt ⟨rfl, hS.th⟩))
      exfalso
      have q' : gI S 155 n = 1 := by
        rcases b2 with x | x
        · exact absurd x q
        · exact x
      have := b4.mpr ⟨q', q2.trans c2⟩
      rw [b] at this
      exact absurd this (by decide)
    · have b' : gI S 91 n = nI 1 := b
      have b0 : ¬ gI S 91 n = nI 0 := by rw [b']; decide
      obtain ⟨q1, q2⟩ := b4.mp b
      obtain ⟨x1, x2⟩ := b5 b
      simp only [b0, if_false, bd_e, zr78 n3, take_e S 6 (79 + 4 * n) (by omega), lt_e]
      simp (disch := omega) only [nEq, Nat.reduceEqDiff, if_false]
      refine Wp.rt ?_
      generalize hA : sI (tk S 6 (79 + 4 * n)) 12 2 (nI 0) = A
      have a0 : ∀ o k, (o < 6 ∨ 9 < o) → (o ≠ 12 ∨ k ≠ 2) → gI A o k = gI S o k := by
        intro o k ho hk
        rw [← hA, gI_s]
        by_cases e : o = 12
        · rw [if_pos e, if_neg (by omega), tk_off (by omega)]
        · rw [if_neg e, tk_off (by omega)]
      have aL : ∀ o k, gL A o k = gL S o k := fun o k => by rw [← hA]; rfl
      rw [if_pos g]
      have y1 : gI A 155 n = nI 1 := (a0 _ _ (by omega) (by omega)).trans q1
      have y2 : gI A 156 n = nI c := (a0 _ _ (by omega) (by omega)).trans q2
      have y3 : gI A 122 4 = nI c := (a0 _ _ (by omega) (by omega)).trans c2
      simp (disch := omega) only [lit, inb_nI, nLt, nLe, nEq, nAdd, nI_t, nMul, nSub, if_true, n3, gI_s, Nat.reduceEqDiff, if_false, y1, y2, y3]
      generalize hP : sI A 122 0 (nI 0) = P
      have p0 : ∀ o k, (o ≠ 122 ∨ k ≠ 0) → gI P o k = gI A o k := by
        intro o k h
        rw [← hP, gI_s]
        by_cases e : o = 122
        · rw [if_pos e, if_neg (by omega)]
        · rw [if_neg e]
      have hl := row_l (S := P) 126 157 117 (39 * n) (by omega) (by omega) (f_X11_again_43b (nI n) (fun v10 S11 => lt (sI S11 122 28 (nI 0)) (fun S12 => some (nI 1, S12)))) (fun T => some (nI 1, sI T 122 28 (nI 0))) (by
        intro i T k hi hT
        unfold f_X11_again_43b
        have q1 : 39 * n + i < 117 := by omega
        simp (disch := omega) only [lit, inb_nI, nLt, nLe, nEq, nAdd, nI_t, nMul, nSub, lt_e, if_true, if_false, q1, hi, show ¬ 39 ≤ i by omega]) (by
        intro T k hT
        unfold f_X11_again_43b
        simp (disch := omega) only [lit, inb_nI, nLt, nLe, nEq, nAdd, nI_t, nMul, nSub, lt_e, if_true, Nat.le_refl])
      simp only [lt_e] at hl
      rw [hl]
      refine Wp.rt ⟨rfl, ?_⟩
      generalize hE : sI (sR P 126 _) 122 28 (nI 0) = E
      have e0 : ∀ o k, o ≠ 126 → (o ≠ 122 ∨ (k ≠ 0 ∧ k ≠ 28)) → gI E o k = gI A o k := by
        intro o k h1 h2
        rw [← hE, gI_s]
        by_cases e : o = 122
        · rw [if_pos e, if_neg (by omega), gI_r, if_neg h1, p0 _ _ (by omega)]
        · rw [if_neg e, gI_r, if_neg h1, p0 _ _ (by omega)]
      have e126 : ∀ k, k < 39 → gI E 126 k = gI S 157 (39 * n + k) := by
        intro k hk
        rw [← hE, gI_s, if_neg (by omega), gI_r, if_pos rfl, if_pos hk, p0 _ _ (by omega), a0 _ _ (by omega) (by omega)]
      have sE : Same domR S E := by
        rw [← hE, ← hP]
        refine Same.sI (Same.sR (Same.sI ?_ rfl) (fun _ => rfl)) rfl
        refine ⟨fun a b hab => ?_, fun k => ⟨aL _ _, aL _ _⟩⟩
        by_cases q : a < 6 ∨ 9 < a
        · refine a0 a b q ?_
          by_cases q2 : a = 12
          · subst q2; cases hab
          · exact Or.inl q2
        · have : a = 6 ∨ a = 7 ∨ a = 8 ∨ a = 9 := by omega
          rcases this with rfl | rfl | rfl | rfl <;> cases hab
      have hq : ∀ q k, q ≤ 3 → gI E (6 + q) k = gI (tk S 6 (79 + 4 * n)) (6 + q) k := by
        intro q k hq
        rw [e0 _ _ (by omega) (by omega), ← hA, gI_s, if_neg (by omega)]
      refine (hR.sm sE).p (x2.tk hm hq) (x1.tk hq (fun k hk => by rw [Nat.zero_add, e126 k hk])) ?_
      obtain ⟨h1, h2, h3, h4, h5, h6⟩ := hw
      refine ⟨0, f, by omega, h2, ?_, ?_, (e0 _ _ (by omega) (by omega)).trans ((a0 _ _ (by omega) (by omega)).trans h5), fun j hj => absurd hj (by omega)⟩
      · rw [e0 _ _ (by omega) (by omega), ← hA]; rfl
      · rw [← hE]; rfl
  · have : f_X10_again a1 S = some (nI 0, S) := by
      unfold f_X10_again f_X4_hasStored
      simp only [lit]
      by_cases g1 : a1 < nI 0
      · simp only [g1, if_true, bd_e]
      · have g2 : nI 3 ≤ a1 := by
          rw [i_le, nI_int (by omega)]
          have : ¬ ¬ nI 2 < a1 := fun q => g ⟨g1, q⟩
          rw [i_lt, nI_int (by omega)] at this; omega
        simp only [g1, g2, if_false, if_true, bd_e]
    rw [this]
    refine Wp.rt ?_
    unfold f_X11_again
    simp only [lt_e, bd_e, fl3z, fl2z, fl6z, in0, in2, in_0_2, in_0_3, in_0_4, in_0_5, in_0_7, in_0_9, in_0_10, in_0_20, in_0_60, in_0_255, in_1_9, in_1_6, in_1_60, in_2_9, in_48_57, in_97_104, if_neg g]
    exact Wp.rt ⟨rfl, hS.th⟩
/-! signs -/
theorem and255 (x : Int32) : ∃ n, n ≤ 255 ∧ x &&& nI 255 = nI n := by
  refine ⟨x.toBitVec.toNat &&& 255, Nat.and_le_right, ?_⟩
  apply bvE
  rw [Int32.toBitVec_and, nBV, nBV]
  apply BitVec.eq_of_toNat_eq
  rw [BitVec.toNat_and, BitVec.toNat_ofNat, BitVec.toNat_ofNat, Nat.mod_eq_of_lt (show 255 < 2 ^ 32 by omega), Nat.mod_eq_of_lt]
  have := Nat.and_le_right (n := x.toBitVec.toNat) (m := 255)
  omega
theorem nar255 {n : Nat} (h : n ≤ 255) : vp_nar .char (((nI n).toUInt32 % 65536).toInt32) = nI n := by
  have q : ∀ n, n < 256 → vp_nar .char (((nI n).toUInt32 % 65536).toInt32) = nI n := by decide +kernel
  exact q n (by omega)
theorem ushr_sh (x : Int32) {s : Nat} (h : s ≤ 24) : ushr x (nI s) &&& nI 255 = (x >>> (nI s &&& nI 31)) &&& nI 255 := by
  rw [n31 (by omega)]
  apply bvE
  unfold ushr
  rw [Int32.toBitVec_and, Int32.toBitVec_and, Int32.toBitVec_shiftRight]
  have e1 : ((x.toUInt32 >>> ((nI s).toUInt32 &&& Int32.toUInt32 31)).toInt32).toBitVec = x.toBitVec >>> s := by
    show (x.toUInt32 >>> ((nI s).toUInt32 &&& Int32.toUInt32 31)).toBitVec = _
    rw [UInt32.toBitVec_shiftRight]
    have q : ∀ s, s ≤ 24 → (((nI s).toUInt32 &&& Int32.toUInt32 31).toBitVec % 32) = BitVec.ofNat 32 s := by decide +kernel
    rw [q s h]
    show x.toBitVec >>> (BitVec.ofNat 32 s).toNat = _
    rw [BitVec.toNat_ofNat, Nat.mod_eq_of_lt (by omega)]
  have e2 : x.toBitVec.sshiftRight' ((nI s).toBitVec.smod 32) = x.toBitVec.sshiftRight s := by
    have q : ∀ s, s ≤ 24 → ((nI s).toBitVec.smod 32) = BitVec.ofNat 32 s := by decide +kernel
    rw [q s h, BitVec.sshiftRight'_ofNat_eq_sshiftRight]
    rw [Nat.mod_eq_of_lt (by omega)]
  rw [e1, e2]
  apply BitVec.eq_of_getLsbD_eq
  intro i hi
  simp only [BitVec.getLsbD_and, BitVec.getLsbD_ushiftRight, BitVec.getLsbD_sshiftRight]
  by_cases h8 : i < 8
  · rw [decide_eq_false (show ¬ 32 ≤ i by omega), if_pos (by omega)]; rfl
  · have : (nI 255).toBitVec.getLsbD i = false := by
      have q : ∀ i, i < 32 → ¬ i < 8 → (nI 255).toBitVec.getLsbD i = false := by decide +kernel
      exact q i hi h8
    rw [this, Bool.and_false, Bool.and_false]
theorem sign_k (x : Int32) : ∃ n, n ≤ 255 ∧ x &&& nI 255 = nI n := and255 x
/-- the k-th sign of a number -/
def sgN (x : Int32) (k : Nat) : Int32 := (x >>> (nI (24 - 8 * k) &&& nI 31)) &&& nI 255
theorem sg_c (x : Int32) {k : Nat} (h : k ≤ 3) : vp_nar .char ((((ushr x (nI (24 - 8 * k))) &&& (255 : Int32))).toUInt32 % 65536).toInt32 = sgN x k := by
  show vp_nar .char ((((ushr x (nI (24 - 8 * k))) &&& nI 255)).toUInt32 % 65536).toInt32 = sgN x k
  rw [ushr_sh x (by omega)]
  unfold sgN
  obtain ⟨n, h1, h2⟩ := and255 (x >>> (nI (24 - 8 * k) &&& nI 31))
  rw [h2]; exact nar255 h1
theorem sg_in (x : Int32) (k : Nat) : inR (sgN x k) 0 255 := by
  obtain ⟨n, h1, h2⟩ := and255 (x >>> (nI (24 - 8 * k) &&& nI 31))
  exact ⟨n, by omega, h1, h2⟩
theorem signC_e {S : St} {t : Nat} (x : Int32) (ht : gI S 1 1 = nI t) (h : t + 4 ≤ 80) : f_X10_sign x S = some (nI (t + 4), sI (sR S 2 (fun k => if t ≤ k ∧ k < t + 4 then sgN x (k - t) else gI S 2 k)) 1 1 (nI (t + 4))) := by
  unfold f_X10_sign
  have q4 : t + 4 ≤ 80 := h
  simp (disch := omega) only [ht, lit, inb_nI, nLt, nLe, nEq, nAdd, nI_t, nMul, nSub, q4, if_true]
  have step : ∀ i (T : St) (k : Int32 → St → Option (Int32 × St)), i ≤ 3 → gI T 1 1 = nI (t + i) → f_X10_sign_19b x (fun v4 S5 => some ((gI S5 1 1), S5)) k (nI (24 - 8 * i)) T = k (if i = 3 then -nI 8 else nI (24 - 8 * (i + 1))) (sI (sI T 2 (t + i) (sgN x i)) 1 1 (nI (t + i + 1))) := by
    intro i T k hi hT
    unfold f_X10_sign_19b
    have q1 : ¬ nI (24 - 8 * i) < (0 : Int32) := not_neg (by omega)
    rw [if_neg q1, hT, if_pos (by rw [inb_nI (by omega)]; omega), nI_t (by omega), sg_c x hi, lt_e, lt_e]
    have e2 : nI (24 - 8 * i) + -8 = if i = 3 then -nI 8 else nI (24 - 8 * (i + 1)) := by
      have : i = 0 ∨ i = 1 ∨ i = 2 ∨ i = 3 := by omega
      rcases this with rfl | rfl | rfl | rfl <;> decide
    have e3 : gI (sI T 2 (t + i) (sgN x i)) 1 1 + 1 = nI (t + i + 1) := by rw [gI_s, if_neg (by omega), hT, lit, nAdd]
    rw [e2, e3]
  have l : ∀ (T : St) (v : Int32) (n : Nat), lp (f_X10_sign_19b x (fun v4 S5 => some ((gI S5 1 1), S5))) (n + 1) v T = f_X10_sign_19b x (fun v4 S5 => some ((gI S5 1 1), S5)) (lp (f_X10_sign_19b x (fun v4 S5 => some ((gI S5 1 1), S5))) n) v T := fun _ _ _ => rfl
  rw [show FU = 4999 + 1 from rfl, l _ _ 4999, show nI 24 = nI (24 - 8 * 0) from rfl, step 0 _ _ (by omega) ht, if_neg (by omega), show (4999 : Nat) = 4998 + 1 from rfl, l _ _ 4998, step 1 _ _ (by omega) rfl, if_neg (by omega), show (4998 : Nat) = 4997 + 1 from rfl, l _ _ 4997, step 2 _ _ (by omega) rfl, if_neg (by omega), show (4997 : Nat) = 4996 + 1 from rfl, l _ _ 4996, step 3 _ _ (by omega) rfl, if_pos rfl, show (4996 : Nat) = 4995 + 1 from rfl, l _ _ 4995]
  unfold f_X10_sign_19b
  rw [if_pos (by decide)]
  refine congrArg some (Prod.ext rfl ?_)
  apply St_ext
  · intro a b
    simp only [gI_s, gI_r]
    by_cases e1 : a = 1
    · simp only [e1, if_true]
      by_cases e2 : b = 1
      · simp only [e2, if_true]
      · simp only [e2, if_false, Nat.reduceEqDiff]
    · simp only [e1, if_false]
      by_cases e2 : a = 2
      · simp only [e2, if_true]
        by_cases c3 : b = t + 3
        · rw [if_pos c3, if_pos (by omega), c3]; congr 1; omega
        rw [if_neg c3]
        by_cases c2 : b = t + 2
        · rw [if_pos c2, if_pos (by omega), c2]; congr 1; omega
        rw [if_neg c2]
        by_cases c1 : b = t + 1
        · rw [if_pos c1, if_pos (by omega), c1]; congr 1; omega
        rw [if_neg c1]
        by_cases c0 : b = t + 0
        · rw [if_pos c0, if_pos (by omega), c0]; congr 1; omega
        rw [if_neg c0, if_neg (by omega)]
      · simp only [e2, if_false]
  · intro a b; rfl
theorem signM_e {S : St} {t : Nat} (x : Int32) (ht : gI S 122 10 = nI t) (h : t + 4 ≤ 80) : f_X11_sign x S = some (nI (t + 4), sI (sR (sI S 122 0 0) 128 (fun k => if t ≤ k ∧ k < t + 4 then sgN x (k - t) else gI S 128 k)) 122 10 (nI (t + 4))) := by
  unfold f_X11_sign
  have q4 : t ≤ 76 := by omega
  have ht' : gI (sI S 122 0 0) 122 10 = nI t := ht
  have b128 : ∀ k, gI (sI S 122 0 0) 128 k = gI S 128 k := fun _ => rfl
  rw [lt_e, ht']
  rw [if_pos (by rw [lit, nLe (by omega) (by omega)]; exact q4)]
  generalize sI S 122 0 0 = Q at *
  have e0 : sR Q 128 (fun k => if t ≤ k ∧ k < t + 0 then sgN x (k - t) else gI S 128 k) = Q := sR_0 (fun k => by rw [if_neg (by omega), b128])
  have := lp_for (body := f_X11_sign_18b x (fun v5 S6 => lt (sI S6 122 10 ((gI S6 122 10) + (4 : Int32))) (fun S7 => some ((gI S7 122 10), S7)))) 4 (fun i => (nI i, sR Q 128 (fun k => if t ≤ k ∧ k < t + i then sgN x (k - t) else gI S 128 k))) (out := some (nI (t + 4), sI (sR Q 128 (fun k => if t ≤ k ∧ k < t + 4 then sgN x (k - t) else gI S 128 k)) 122 10 (nI (t + 4)))) (fun i k hi => ?_) (fun k => ?_) FU 0 (by omega) (by unfold FU; omega)
  · simp only [e0] at this; exact this
  · unfold f_X11_sign_18b
    have q1 : gI (sR Q 128 (fun k => if t ≤ k ∧ k < t + i then sgN x (k - t) else gI S 128 k)) 122 10 = nI t := ht'
    have q2 : t + i < 80 := by omega
    have q3 : nI 8 * nI i = nI (8 * i) := nMul _ _
    simp (disch := omega) only [q1, lit, inb_nI, nLt, nLe, nEq, nAdd, nI_t, nMul, nSub, lt_e, if_true, if_false, q2, show ¬ 4 ≤ i by omega]
    rw [sR_I]
    congr 1
    apply sR_e
    intro j
    by_cases ej : j = t + i
    · rw [if_pos ej, if_pos (by omega), ej]
      unfold sgN
      rw [show t + i - t = i by omega]
    · rw [if_neg ej]
      by_cases ek : t ≤ j ∧ j < t + i
      · rw [if_pos ek, if_pos (by omega)]
      · rw [if_neg ek, if_neg (by omega)]
  · unfold f_X11_sign_18b
    have q1 : gI (sR Q 128 (fun k => if t ≤ k ∧ k < t + 4 then sgN x (k - t) else gI S 128 k)) 122 10 = nI t := ht'
    simp (disch := omega) only [q1, lit, inb_nI, nLt, nLe, nEq, nAdd, nI_t, nMul, nSub, lt_e, if_true, Nat.le_refl, gI_s]
theorem eq_sign (a1 : Int32) : EQ1 RelP (f_X10_sign a1) (f_X11_sign a1) := by
  apply EQ1.of
  intro S hS
  obtain ⟨hT, ⟨m, hC, hO, hH, hK⟩, hN, hR, hF, hE, hU⟩ := id hS
  obtain ⟨n, t1, t2, t3, t4, t5⟩ := id hT
  by_cases h : n + 4 ≤ 80
  · rw [signC_e a1 t2 h]
    refine Wp.rt ?_
    rw [signM_e a1 (t := n) (by exact t3) h]
    refine Wp.rt ⟨rfl, ?_, ⟨m, hC.fr, hO.f6, hH.fr, hK.fr⟩, hN.f6, hR.fr, hF.fr, hE.fr, hU.fr⟩
    refine ⟨n + 4, h, rfl, rfl, fun i hi => ?_, fun i hi => ?_⟩
    · show (if n ≤ i ∧ i < n + 4 then sgN a1 (i - n) else gI S 2 i) = (if n ≤ i ∧ i < n + 4 then sgN a1 (i - n) else gI S 128 i)
      by_cases e : n ≤ i ∧ i < n + 4
      · rw [if_pos e, if_pos e]
      · rw [if_neg e, if_neg e]; exact t4 i (by omega)
    · show inR (if n ≤ i ∧ i < n + 4 then sgN a1 (i - n) else gI S 2 i) 0 255
      by_cases e : n ≤ i ∧ i < n + 4
      · rw [if_pos e]; exact sg_in _ _
      · rw [if_neg e]; exact t5 i hi
  · unfold f_X10_sign f_X11_sign
    rw [if_neg (by rw [t2, lit, lit, nAdd, nLe (by omega) (by omega)]; exact h)]
    refine Wp.rt ?_
    rw [lt_e, if_neg (by rw [show gI (sI S 122 0 0) 122 10 = nI n from t3, lit, nLe (by omega) (by omega)]; omega)]
    exact Wp.rt ⟨rfl, hS.th⟩
